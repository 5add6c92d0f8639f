/-! @79.p2@ the reference's questions; what signals and settling leave as it was -/
/-- a family that no signal writes to -/
def nsg (f : Nat) : Prop := f ≠ 21 ∧ f ≠ 22 ∧ f ≠ 25 ∧ f ≠ 26 ∧ f ≠ 28 ∧ f ≠ 29 ∧ f ≠ 30 ∧ f ≠ 31 ∧ f ≠ 32 ∧ f ≠ 34 ∧ f ≠ 40
theorem fin_n {G : Nat → Nat → Int32} {p f k : Nat} {v : Int32} (h : nsg f) : finF G p v f k = G f k := by
  unfold nsg at h
  unfold finF
  rw [v_f (by omega), v_f (by omega), v_f (by omega)]
theorem hear_n {G : Nat → Nat → Int32} {p f k : Nat} {s : Int32} (h : nsg f) : hearF G p s f k = G f k := by
  unfold nsg at h
  exact hear_f (by omega)
theorem tell_n {G : Nat → Nat → Int32} {p f k : Nat} (h : nsg f) : tellF G p f k = G f k := by
  unfold nsg at h
  exact tell_f (by omega)
theorem halt_n {G : Nat → Nat → Int32} {p f k : Nat} (h : nsg f) : haltF G p f k = G f k := by
  unfold haltF
  rw [tell_n h]
  unfold nsg at h
  rw [v_f (by omega), v_f (by omega), v_f (by omega)]
theorem end_n {G : Nat → Nat → Int32} {p f k : Nat} {s : Int32} (h : nsg f) : endF G p s f k = G f k := by
  unfold nsg at h
  unfold endF
  rw [v_f (by omega), v_f (by omega), v_f (by omega), v_f (by omega)]
  unfold rp fz
  rw [if_neg (by omega), if_neg (by omega)]
theorem finish_n {G : Nat → Nat → Int32} {p f k : Nat} {s : Int32} (h : nsg f) : finishF G p s f k = G f k := by
  unfold finishF
  rw [tell_n h, end_n h]
theorem fgt_n {G : Nat → Nat → Int32} {p f k s : Nat} (h : nsg f) : fgt G p s f k = G f k := by
  unfold nsg at h
  exact v_f (by omega)
theorem byDef_n {G : Nat → Nat → Int32} {p f k s : Nat} (h : nsg f) : byDefF G p s f k = G f k := by
  unfold byDefF
  split
  · rfl
  · split
    · exact finish_n h
    · split
      · exact halt_n h
      · rfl
theorem dst_n {G : Nat → Nat → Int32} {p f k s : Nat} (h : nsg f) : dst G p s f k = G f k := by
  unfold dst
  split
  · split
    · rw [hear_n h, fgt_n h]
    · split
      · rw [byDef_n h, fgt_n h]
      · exact fgt_n h
  · rfl
theorem delN_n {p f k : Nat} (h : nsg f) : ∀ {n s : Nat} {G : Nat → Nat → Int32}, delN G p s n f k = G f k
  | 0, s, G => rfl
  | n + 1, s, G => by
    simp only [delN]
    rw [delN_n h, dst_n h]
theorem del_n {G : Nat → Nat → Int32} {p f k : Nat} (h : nsg f) : delF G p f k = G f k := delN_n h
theorem adm_n {G : Nat → Nat → Int32} {p f k s : Nat} (h : nsg f) : admF G p s f k = G f k := by
  have h' := h
  unfold nsg at h'
  have h1 : ad1 G p s f k = G f k := by
    unfold ad1
    split
    · split
      · rw [v_f (by omega), v_f (by omega)]
      · exact v_f (by omega)
    · split
      · exact v_f (by omega)
      · rfl
  unfold admF
  split
  · rw [v_f (by omega), h1]
  · exact h1
theorem com_n {G : Nat → Nat → Int32} {p f k s : Nat} (h : nsg f) : comF G p s f k = G f k := by
  unfold comF
  split
  · split
    · split
      · rfl
      · exact finish_n h
    · rw [del_n h, adm_n h]
  · rfl
theorem cpN_n {f k s : Nat} {q : Int32} (h : nsg f) : ∀ {n j : Nat} {G : Nat → Nat → Int32}, cpN G q s j n f k = G f k
  | 0, j, G => rfl
  | n + 1, j, G => by
    simp only [cpN]
    rw [cpN_n h]
    split
    · exact com_n h
    · rfl
theorem cp_n {G : Nat → Nat → Int32} {f k s : Nat} {q : Int32} (h : nsg f) : cpF G q s f k = G f k := cpN_n h
theorem n27 : nsg 27 := by unfold nsg; omega
theorem n20 : nsg 20 := by unfold nsg; omega
/-- how many bytes the last reading took: at most eight -/
def Tk (G : Nat → Nat → Int32) : Prop := ∀ p, p < 8 → ∃ m, m ≤ 8 ∧ G 27 p = nI m
/-- nothing is thrown here, and a reading takes at most eight -/
def Tz (G G' : Nat → Nat → Int32) : Prop := G' 20 0 = G 20 0 ∧ (Tk G → Tk G')
theorem Tz.rf {G : Nat → Nat → Int32} : Tz G G := ⟨rfl, id⟩
theorem Tz.tr {G G' G'' : Nat → Nat → Int32} (h : Tz G G') (h' : Tz G' G'') : Tz G G'' := ⟨h'.1.trans h.1, fun k => h'.2 (h.2 k)⟩
theorem tz_of {G G' : Nat → Nat → Int32} (h : ∀ f k, nsg f → G' f k = G f k) : Tz G G' := ⟨h _ _ n20, fun hk p hp => by rw [h _ _ n27]; exact hk p hp⟩
theorem tz_v {G : Nat → Nat → Int32} {f k : Nat} {v : Int32} (h : f ≠ 27 ∧ ¬ (f = 20 ∧ k = 0)) : Tz G (pm_v G f k v) := ⟨v_ne (by omega), fun hk p hp => by rw [v_f (by omega)]; exact hk p hp⟩
theorem tz_27 {G : Nat → Nat → Int32} {k m : Nat} (h : m ≤ 8) : Tz G (pm_v G 27 k (nI m)) := by
  refine ⟨v_f (by decide), fun hk p hp => ?_⟩
  by_cases e : p = k
  · subst e
    exact ⟨m, h, v_eq⟩
  · rw [v_k e]
    exact hk p hp
theorem tz_mv {f a f2 b : Nat} (h : f ≠ 27 ∧ f ≠ 20) {n k : Nat} {G : Nat → Nat → Int32} : Tz G (mv f a f2 b G k n) := ⟨mv_f (by omega), fun hk p hp => by rw [mv_f (by omega)]; exact hk p hp⟩
theorem tz_gs {b : Int64} : ∀ {n k : Nat} {G : Nat → Nat → Int32}, Tz G (gsN G b k n)
  | 0, k, G => Tz.rf
  | n + 1, k, G => Tz.tr (Tz.tr (tz_v (by omega)) (tz_v (by omega))) tz_gs
theorem tz_gp {b : Int64} {j : Nat} : ∀ {n k : Nat} {G : Nat → Nat → Int32}, Tz G (gpN G j b k n)
  | 0, k, G => Tz.rf
  | n + 1, k, G => Tz.tr (Tz.tr (tz_v (by omega)) (tz_v (by omega))) tz_gp
theorem cl_36 {G : Nat → Nat → Int32} {p t : Nat} {e : Nat} (hI : Iv e t G) (hp : p < 8) : ∃ n, n ≤ 8 ∧ G 36 p = nI n := by
  obtain ⟨f, hf, e35, ⟨n, hn, e36, hn1⟩, -, -⟩ := hI.2.1 p hp
  exact ⟨n, hn, e36⟩
theorem mn_le {a b : Nat} {x : Int32} (h : ∃ m, m < 2 ^ 31 ∧ x = nI m) (ha : a ≤ 8) : (mnI (nI a) x).toNatClampNeg ≤ 8 := by
  obtain ⟨m, hm, e⟩ := h
  rw [e, mnI_of (by omega) (by omega), nI_clamp (by omega)]
  omega
theorem tz_pf {t p : Nat} {w : Int32} {b : Int64} {G : Nat → Nat → Int32} (hI : Iv 8 t G) (hp : p < 8) (hw : w = nI 1 ∨ w = nI 2 ∨ w = nI 3) (hc : Cl (pm_v G 34 p w) p) : Tz G (pfW w G b p) := by
  obtain ⟨n, hn, e36⟩ := cl_36 hI hp
  unfold pfW
  split
  · unfold rpF
    split
    · exact Tz.rf
    · split
      · exact tz_v (by omega)
      · exact tz_v (by omega)
  · split
    · unfold gvF
      split
      · exact tz_gs
      · split
        · exact Tz.rf
        · exact tz_gp
    · rename_i hw3 hw2
      have hw1 : w = nI 1 := by
        rcases hw with h | h | h
        · exact h
        · exact absurd h hw2
        · exact absurd h hw3
      split
      · split
        · obtain ⟨r, l, -, -, -, -, hm⟩ := hI.2.2.2.2.1
          obtain ⟨m, hm1, hm2⟩ := hm 0 (by decide)
          have hle : tlN G p ≤ 8 := by
            unfold tlN
            rw [e36]
            exact mn_le (b := 0) ⟨m, by omega, hm2⟩ hn
          have h1 : Tz G (tl1 G p) := Tz.tr (Tz.tr (Tz.tr (tz_mv (by omega)) (tz_mv (by omega))) (tz_v (by omega))) (tz_27 hle)
          unfold tlF
          split
          · exact Tz.tr (Tz.tr h1 (tz_v (by omega))) (tz_mv (by omega))
          · exact h1
        · exact Tz.rf
      · rename_i hf1
        obtain ⟨f, hf, e35, -, hrd, -⟩ := hc
        rw [v_f (by decide)] at e35
        have efv : fv G p = G 32 (6 * p + f) := by rw [fv, cfi, e35, nI_clamp (by omega)]
        obtain ⟨j, hj, ej⟩ := (hrd (by rw [v_eq]; exact hw1)).resolve_left (by rw [v_f (by decide), ← efv]; exact hf1)
        rw [v_f (by decide), ← efv] at ej
        have epx : pix (fv G p) = j := by rw [ej]; exact (pix_ix (v := 2 + 2 * j) hj (Or.inl rfl)).2
        obtain ⟨m, hm, e43⟩ := hI.2.2.2.1 j hj
        have hle : tbN G p (pix (fv G p)) ≤ 8 := by
          unfold tbN
          rw [epx, e36]
          exact mn_le (b := 0) ⟨m, by omega, e43⟩ hn
        exact Tz.tr (Tz.tr (Tz.tr (tz_mv (by omega)) (tz_mv (by omega))) (tz_v (by omega))) (tz_27 hle)
theorem tz_ans {t p : Nat} {b : Int64} {G : Nat → Nat → Int32} (hI : Iv 8 t G) (hp : p < 8) (h2 : G 21 p = nI 2) (h1 : chF G p = 1) : Tz G (ansF G b p) := by
  have h34 : G 34 p = nI 1 ∨ G 34 p = nI 2 ∨ G 34 p = nI 3 := by
    rcases h34_of hI hp h2 with h | h | h | h
    · exact Or.inl h
    · exact Or.inr (Or.inl h)
    · exact Or.inr (Or.inr h)
    · rw [chF_W, h] at h1
      exact absurd (show (0 : Nat) = 1 from h1) (by decide)
  have hz : Tz G (pfF G b p) := by
    rw [pfF_W]
    exact tz_pf hI hp h34 (by rw [v_id rfl]; exact Cl_of hI hp)
  have hf : Tz G (finF (pfF G b p) p (pfV G p)) := Tz.tr hz (tz_of (fun f k h => fin_n h))
  unfold ansF
  split
  · exact Tz.tr hf (tz_of (fun f k h => com_n h))
  · exact hf
theorem tz_step {t : Nat} {G : Nat → Nat → Int32} {g : Nat → Int64} (hI : Iv 8 t G) (hs : sel G ≠ 8) : Tz G (stepF G g) := by
  obtain ⟨hp, h2, h0⟩ := sel_ok hs
  unfold stepF
  split
  · exact tz_of (fun f k h => cp_n h)
  · have := chF_le (G := G) (p := sel G)
    exact tz_ans hI hp h2 (by omega)
theorem tz_stN {g : Nat → Int64} : ∀ {n t : Nat} {G : Nat → Nat → Int32}, Iv 8 t G → Tz G (stN g G n)
  | 0, t, G, hI => Tz.rf
  | n + 1, t, G, hI => by
    simp only [stN]
    split
    · exact Tz.rf
    · rename_i hs
      exact Tz.tr (tz_step hI hs) (tz_stN (iv_step (g := g) hI hs).1)
theorem tz_settle {t : Nat} {G : Nat → Nat → Int32} {g : Nat → Int64} (hI : Iv 8 t G) : Tz G (settleF G g) := tz_stN hI
theorem tz_bg {t p : Nat} {G : Nat → Nat → Int32} {w : Int32} {g : Nat → Int64} (hI : Iv 8 t G) (hp : p < 8) (hw : w = nI 1 ∨ w = nI 2 ∨ w = nI 3 ∨ w = nI 4) (hc : Cl (pm_v G 34 p w) p) : Tz G (bgF w G g p) := by
  unfold bgF
  split
  · rename_i hch
    have hw' : w = nI 1 ∨ w = nI 2 ∨ w = nI 3 := by
      rcases hw with h | h | h | h
      · exact Or.inl h
      · exact Or.inr (Or.inl h)
      · exact Or.inr (Or.inr h)
      · subst h
        exact absurd (show (0 : Nat) = 1 from hch) (by decide)
    have hz := tz_pf (b := g p) hI hp hw' hc
    split
    · exact Tz.tr hz (tz_of (fun f k h => com_n h))
    · exact hz
  · unfold blF
    exact Tz.tr (Tz.tr (Tz.tr (Tz.tr (tz_v (by omega)) (tz_v (by omega))) (tz_v (by omega))) (tz_v (by omega))) (tz_v (by omega))
theorem tz_be {t p : Nat} {G : Nat → Nat → Int32} {w : Int32} {g : Nat → Int64} (hI : Iv 8 t G) (hp : p < 8) (h1 : G 21 p = nI 1) (hw : w = nI 1 ∨ w = nI 2 ∨ w = nI 3 ∨ w = nI 4) (hc : Cl (pm_v G 34 p w) p) (ht : t < 2 ^ 30) : Tz G (beF w G g p) := Tz.tr (tz_bg hI hp hw hc) (tz_settle (iv_bg hI hp h1 hw hc ht))
theorem tz_key {G : Nat → Nat → Int32} {c : Int32} : Tz G (keyF G c) := by
  have hp : ∀ {G : Nat → Nat → Int32} {c : Int32}, Tz G (putF G c) := by
    intro G c
    unfold putF
    split
    · exact Tz.rf
    · exact Tz.tr (tz_v (by omega)) (tz_v (by omega))
  have hl : ∀ {G : Nat → Nat → Int32}, Tz G (ldF G) := fun {G} => Tz.tr (Tz.tr (tz_v (by omega)) (tz_v (by omega))) (tz_v (by omega))
  have hc : ∀ {G : Nat → Nat → Int32}, Tz G (clrF G) := fun {G} => Tz.tr (tz_v (by omega)) (tz_v (by omega))
  unfold keyF
  split
  · exact Tz.tr hc (tz_of (fun f k h => cp_n h))
  · split
    · exact Tz.tr hc (tz_of (fun f k h => cp_n h))
    · split
      · split
        · exact Tz.rf
        · exact tz_v (by omega)
      · split
        · exact tz_v (by omega)
        · split
          · split
            · exact Tz.tr hp hl
            · exact Tz.rf
          · split
            · split
              · exact hl
              · exact Tz.rf
            · split
              · exact hp
              · exact Tz.rf
theorem tz_fk {G : Nat → Nat → Int32} {p q : Nat} : Tz G (fkF G p q) := by
  refine ⟨by simp [fkF], fun hk r hr => ?_⟩
  have e : fkF G p q 27 r = if r = q then nI 0 else G 27 r := by simp [fkF]
  rw [e]
  split
  · exact ⟨0, by decide, rfl⟩
  · exact hk r hr
theorem tz_pp {G : Nat → Nat → Int32} {p a b k : Nat} : Tz G (ppF G p a b k) := Tz.tr (Tz.tr (tz_v (by omega)) (tz_v (by omega))) (tz_v (by omega))
theorem tz_tf {G : Nat → Nat → Int32} {p : Nat} {a n : Int32} : Tz G (tfF G p a n) := Tz.tr (tz_v (by omega)) (tz_v (by omega))
theorem tz_ac {G : Nat → Nat → Int32} {p s : Nat} {h : Int32} : Tz G (acF G p s h) := by
  unfold acF
  split
  · exact Tz.tr (tz_v (by omega)) (tz_of (fun f k h => fgt_n h))
  · exact tz_v (by omega)
theorem tz_mk {G : Nat → Nat → Int32} {p : Nat} {b : Int32} : Tz G (mkF G p b) := Tz.tr (tz_v (by omega)) (tz_of (fun f k h => del_n h))
theorem tz_sg {G : Nat → Nat → Int32} {to : Int32} {s : Nat} : Tz G (sgF G to s) := by
  unfold sgF
  split
  · exact tz_of (fun f k h => cp_n h)
  · exact tz_of (fun f k h => com_n h)
/-! questions -/
def tsk (G : Nat → Nat → Int32) (p : Int32) : Bool := !decide (p < 0) && (!decide (nI 8 ≤ p) && !decide (G 21 p.toNatClampNeg = 0))
theorem tsk_t {G : Nat → Nat → Int32} {p : Int32} (h : tsk G p = true) : ∃ k, k < 8 ∧ p = nI k ∧ ¬ G 21 k = 0 := by
  simp only [tsk, Bool.and_eq_true, Bool.not_eq_true', decide_eq_false_iff_not] at h
  obtain ⟨h1, h2, h3⟩ := h
  rcases pk_ix p (n := 8) (by decide) with h | h | ⟨k, hk, e⟩
  · exact absurd h h1
  · exact absurd h h2
  · rw [e, nI_clamp (by omega)] at h3
    exact ⟨k, hk, e, h3⟩
def knd (v : Int32) : Int32 := if nI 2 ≤ v then nI 2 + (v - v / nI 2 * nI 2) else v
def prV (G : Nat → Nat → Int32) (p : Nat) (w : Int32) : Int32 :=
  if ¬ w < nI 10 ∧ ¬ nI 16 ≤ w then knd (G 32 (6 * p + (w - nI 10).toNatClampNeg))
  else if ¬ w ≤ nI 20 ∧ ¬ nI 28 ≤ w then G 33 (8 * p + (w - nI 20).toNatClampNeg)
  else if w.toInt = 0 then G 21 p else if w.toInt = 1 then G 22 p else if w.toInt = 2 then G 23 p else if w.toInt = 3 then G 24 p else if w.toInt = 4 then G 25 p else if w.toInt = 5 then G 26 p else if w.toInt = 6 then G 27 p else if w.toInt = 7 then G 28 p else if w.toInt = 8 then (if G 21 p = nI 4 then G 29 p else -nI 1) else -nI 1
def tkV (G : Nat → Nat → Int32) (p : Int32) (k : Int32) : Int32 := if tsk G p = true ∧ ¬ k < 0 ∧ k < G 27 p.toNatClampNeg then G 41 (8 * p.toNatClampNeg + k.toNatClampNeg) else -nI 1
def hdV (G : Nat → Nat → Int32) (p : Int32) (k : Int32) : Int32 := if tsk G p = true ∧ ¬ k < 0 ∧ ¬ nI 16 ≤ k ∧ ¬ G 28 p.toNatClampNeg ≤ k then G 40 (16 * p.toNatClampNeg + ((G 28 p.toNatClampNeg).toNatClampNeg - 1 - k.toNatClampNeg) % 16) else -nI 1
def tmV (G : Nat → Nat → Int32) (k : Int32) : Int32 :=
  if k.toInt = -5 then nI (ct (isp G) 6) else if k.toInt = -4 then G 20 28 else if k.toInt = -3 then G 20 26 else if k.toInt = -2 then nI (usN G) else if k.toInt = -1 then G 20 25
  else if ¬ k < 0 ∧ ¬ nI 63 < k ∧ k < G 20 28 then G 46 (((G 20 28).toNatClampNeg - 1 - k.toNatClampNeg) % 64) else -nI 1
section P3
variable {ns d x : Nat} {R : Nat → Nat → Nat → Option (Nat × Nat)} {Z A : Nat → Nat → Nat → Int32} {Y : Nat → Nat → Nat → Int64} {o : Int64} {c g : Nat → Int64} {G : Nat → Nat → Int32}
theorem r97 (hR : RS R) {v : Int32} : pE ns (d + 1) 97 [pm_i v] (mm x R Z Y o A c G g) (.inl (some (pm_i (knd v))), mm x R Z Y o A c G g) := by
  refine en rfl (t97_0 hR (fun h => ?_) (fun h => ?_))
  · unfold knd
    rw [if_pos h]
  · unfold knd
    rw [if_neg h]
theorem r98 (hR : RS R) {p w : Int32} {H : Nat → Nat → Int32} (eH : H = thr G (nI 0)) : pE ns (d + 2) 98 [pm_r 20 0, pm_i p, pm_i w] (mm x R Z Y o A c G g) (.inl (some (pm_i (if tsk H p = true then prV H p.toNatClampNeg w else -nI 1))), mm x R Z Y o A c H g) := by
  subst eH
  have hgo : ∀ k, k < 8 → p = nI k → pW ns (d + 1) 98 81 [some (pm_r 20 0), some (pm_i p), some (pm_i w)] [] (mm x R Z Y o A c (thr G (nI 0)) g) (fun r' => r' = (.inl (some (pm_i (if w.toInt = 0 then thr G (nI 0) 21 k else if w.toInt = 1 then thr G (nI 0) 22 k else if w.toInt = 2 then thr G (nI 0) 23 k else if w.toInt = 3 then thr G (nI 0) 24 k else if w.toInt = 4 then thr G (nI 0) 25 k else if w.toInt = 5 then thr G (nI 0) 26 k else if w.toInt = 6 then thr G (nI 0) 27 k else if w.toInt = 7 then thr G (nI 0) 28 k else if w.toInt = 8 then (if thr G (nI 0) 21 k = nI 4 then thr G (nI 0) 29 k else -nI 1) else -nI 1))), mm x R Z Y o A c (thr G (nI 0)) g)) := by
    intro k hk e
    refine b98_81 hR (fun h => b98_132 hR e hk ?_) (fun h => b98_139 hR e hk ?_) (fun h => b98_146 hR e hk ?_) (fun h => b98_153 hR e hk ?_) (fun h => b98_160 hR e hk ?_) (fun h => b98_167 hR e hk ?_) (fun h => b98_174 hR e hk ?_) (fun h => b98_181 hR e hk ?_) (fun h => b98_188 hR e hk (fun h4 => b98_198 hR e hk ?_) (fun h4 => b98_207 hR ?_)) (fun h0 h1 h2 h3 h4 h5 h6 h7 h8 => b98_209 hR ?_)
    · simp only [h, if_true]
    · simp [h]
    · simp [h]
    · simp [h]
    · simp [h]
    · simp [h]
    · simp [h]
    · simp [h]
    · rw [if_pos h4]
      simp [h]
    · rw [if_neg h4]
      simp [h]
    · simp only [h0, h1, h2, h3, h4, h5, h6, h7, h8, if_false]
  refine en rfl (b98_0 hR (r47 hR) (t98_10 hR (fun h => ?_) (fun h => ?_)))
  · rw [bI_0] at h
    have : tsk (thr G (nI 0)) p = false := by simp only [tsk, ← Bool.and_assoc, h, Bool.false_and]
    rw [this]
    rfl
  · rw [bI_n0] at h
    simp only [Bool.and_eq_true, Bool.not_eq_true', decide_eq_false_iff_not] at h
    rcases pk_ix p (n := 8) (by decide) with h' | h' | ⟨k, hk, e⟩
    · exact absurd h' h.1
    · exact absurd h' h.2
    · have ec : p.toNatClampNeg = k := by rw [e, nI_clamp (by omega)]
      have etsk : tsk (thr G (nI 0)) p = !decide (thr G (nI 0) 21 k = 0) := by simp only [tsk, h.1, h.2, decide_false, Bool.not_false, Bool.true_and, ec]
      refine b98_13 hR e hk (fun h0 => b98_22 hR ?_) (fun h0 => ?_)
      · rw [etsk]
        simp [h0]
      · have et : tsk (thr G (nI 0)) p = true := by rw [etsk]; simp [h0]
        rw [if_pos et, ec]
        have h54 : ¬ (¬ w < nI 10 ∧ ¬ nI 16 ≤ w) → pW ns (d + 1) 98 54 [some (pm_r 20 0), some (pm_i p), some (pm_i w)] [] (mm x R Z Y o A c (thr G (nI 0)) g) (fun r' => r' = (.inl (some (pm_i (prV (thr G (nI 0)) k w))), mm x R Z Y o A c (thr G (nI 0)) g)) := by
          intro hn
          refine b98_54 hR (fun h20 => ?_) (fun h20 => b98_60 hR (fun h28 => ?_) (fun h28 => ?_))
          · unfold prV
            rw [if_neg hn, if_neg (fun e => e.1 h20)]
            exact hgo k hk e
          · unfold prV
            rw [if_neg hn, if_neg (fun e => e.2 h28)]
            exact hgo k hk e
          · have h20' : ¬ w < 0 := fun h' => h20 (Int32.le_of_lt (Int32.lt_trans h' (by decide)))
            obtain ⟨m, hm, em⟩ := nI_of2 (n := 27) (M := nI 27) (by decide) h20' (by
              rw [← Int32.not_lt]
              intro h'
              obtain ⟨m, hm, em⟩ := nI_of h20'
              rw [em, nI_ltI (by decide) (by omega)] at h'
              rw [em, nI_leI (by decide) (by omega)] at h28
              omega)
            rw [em, nI_leI (by omega) (by decide)] at h20
            refine b98_66 hR (j1 := 8 * k + (m - 20)) ?_ (by omega) ?_
            · rw [e, em, nI_m, nI_add, pk_sub (by omega)]
              congr 1
              omega
            · unfold prV
              rw [if_neg hn, if_pos ⟨by rw [em, nI_leI (by omega) (by decide)]; omega, h28⟩, em, pk_sub (by omega), nI_clamp (by omega)]
        refine b98_24 hR (fun h10 => h54 (fun e => e.1 h10)) (fun h10 => b98_30 hR (fun h16 => h54 (fun e => e.2 h16)) (fun h16 => ?_))
        have h10' : ¬ w < 0 := fun h' => h10 (Int32.lt_trans h' (by decide))
        obtain ⟨m, hm, em⟩ := nI_of2 (n := 15) (M := nI 15) (by decide) h10' (by
          rw [← Int32.not_lt]
          intro h'
          obtain ⟨m, hm, em⟩ := nI_of h10'
          rw [em, nI_ltI (by decide) (by omega)] at h'
          rw [em, nI_leI (by decide) (by omega)] at h16
          omega)
        have h10m := h10
        rw [em, nI_ltI (by omega) (by decide)] at h10m
        refine b98_36 hR (j1 := 6 * k + (m - 10)) ?_ (by omega) (r97 hR) (b98_53 hR ?_)
        · rw [e, em, nI_m, nI_add, pk_sub (by omega)]
          congr 1
          omega
        · unfold prV
          rw [if_pos ⟨h10, h16⟩, em, pk_sub (by omega), nI_clamp (by omega)]
theorem r99 (hR : RS R) {p w : Int32} {H : Nat → Nat → Int32} (eH : H = thr G (nI 0)) (hk : Tk H) : pE ns (d + 2) 99 [pm_r 20 0, pm_i p, pm_i w] (mm x R Z Y o A c G g) (.inl (some (pm_i (tkV H p w))), mm x R Z Y o A c H g) := by
  subst eH
  refine en rfl (b99_0 hR (r47 hR) (t99_10 hR (fun h => ?_) (fun h => ?_)))
  · rw [bI_0] at h
    have : tsk (thr G (nI 0)) p = false := by simp only [tsk, ← Bool.and_assoc, h, Bool.false_and]
    simp [tkV, this]
  · rw [bI_n0] at h
    simp only [Bool.and_eq_true, Bool.not_eq_true', decide_eq_false_iff_not] at h
    rcases pk_ix p (n := 8) (by decide) with h' | h' | ⟨k, hk8, e⟩
    · exact absurd h' h.1
    · exact absurd h' h.2
    · have ec : p.toNatClampNeg = k := by rw [e, nI_clamp (by omega)]
      have etsk : tsk (thr G (nI 0)) p = !decide (thr G (nI 0) 21 k = 0) := by simp only [tsk, h.1, h.2, decide_false, Bool.not_false, Bool.true_and, ec]
      refine b99_13 hR e hk8 (fun h0 => b99_36 hR ?_) (fun h0 => b99_22 hR (fun h1 => b99_36 hR ?_) (fun h1 => b99_26 hR e hk8 (fun h2 => ?_) (fun h2 => b99_36 hR ?_)))
      · unfold tkV
        rw [if_neg (by rw [etsk]; simp [h0])]
      · unfold tkV
        rw [if_neg (fun e => e.2.1 h1)]
      · obtain ⟨m, hm, em⟩ := hk k hk8
        change pm_v G 20 0 (nI 0) 27 k = nI m at em
        obtain ⟨j, hj, ej⟩ := nI_of h1
        have hjm : j < m := by
          rw [em, ej, nI_ltI (by omega) (by omega)] at h2
          exact h2
        refine b99_40 hR (j1 := 8 * k + j) (by rw [e, ej, nI_m, nI_add]) (by omega) ?_
        unfold tkV
        rw [if_pos ⟨by rw [etsk]; simp [h0], h1, by rw [ec]; exact h2⟩, ec, ej, nI_clamp (by omega)]
      · unfold tkV
        rw [if_neg (fun e => h2 (by rw [← ec]; exact e.2.2))]
theorem r100 (hR : RS R) {p w : Int32} {t : Nat} {H : Nat → Nat → Int32} (eH : H = thr G (nI 0)) (hI : Iv 8 t H) (ht : t < 2 ^ 30) : pE ns (d + 2) 100 [pm_r 20 0, pm_i p, pm_i w] (mm x R Z Y o A c G g) (.inl (some (pm_i (hdV H p w))), mm x R Z Y o A c H g) := by
  subst eH
  refine en rfl (b100_0 hR (r47 hR) (t100_10 hR (fun h => ?_) (fun h => ?_)))
  · rw [bI_0] at h
    have : tsk (thr G (nI 0)) p = false := by simp only [tsk, ← Bool.and_assoc, h, Bool.false_and]
    simp [hdV, this]
  · rw [bI_n0] at h
    simp only [Bool.and_eq_true, Bool.not_eq_true', decide_eq_false_iff_not] at h
    rcases pk_ix p (n := 8) (by decide) with h' | h' | ⟨k, hk8, e⟩
    · exact absurd h' h.1
    · exact absurd h' h.2
    · have ec : p.toNatClampNeg = k := by rw [e, nI_clamp (by omega)]
      have etsk : tsk (thr G (nI 0)) p = !decide (thr G (nI 0) 21 k = 0) := by simp only [tsk, h.1, h.2, decide_false, Bool.not_false, Bool.true_and, ec]
      have bad : hdV (thr G (nI 0)) p w = -nI 1 → ∀ u, pW ns (d + 1) 100 46 [some (pm_r 20 0), some (pm_i p), some (pm_i w), u] [] (mm x R Z Y o A c (thr G (nI 0)) g) (fun r' => r' = (.inl (some (pm_i (hdV (thr G (nI 0)) p w))), mm x R Z Y o A c (thr G (nI 0)) g)) := by
        intro hb u
        rw [hb]
        exact b100_46 hR (fun _ => b100_78 hR rfl) (fun h => absurd (by decide) h)
      refine b100_13 hR e hk8 (fun h0 => bad ?_ _) (fun h0 => b100_22 hR (fun h1 => bad ?_ _) (fun h1 => b100_26 hR (fun h2 => bad ?_ _) (fun h2 => b100_32 hR e hk8 (fun h3 => bad ?_ _) (fun h3 => b100_42 hR (fun h => absurd h (by decide)) (fun _ => ?_)))))
      · unfold hdV
        rw [if_neg (by rw [etsk]; simp [h0])]
      · unfold hdV
        rw [if_neg (fun e => e.2.1 h1)]
      · unfold hdV
        rw [if_neg (fun e => e.2.2.1 h2)]
      · unfold hdV
        rw [if_neg (fun e => e.2.2.2 (by rw [ec]; exact h3))]
      · obtain ⟨m, hm, em⟩ := hI.1.2.2.2.2.2.2.2 k hk8
        change pm_v G 20 0 (nI 0) 28 k = nI m at em
        obtain ⟨j, hj, ej⟩ := nI_of h1
        have hjm : j < m := by
          have h3' := h3
          rw [em, ej, nI_leI (by omega) (by omega)] at h3'
          omega
        refine b100_52 hR e hk8 (j2 := 16 * k + (m - 1 - j) % 16) ?_ (by omega) ?_
        · rw [em, ej, e, pk_sub (by omega), pk_sub (by omega), pk_rem (by omega) (by decide) (by decide), nI_m, nI_add]
        · unfold hdV
          rw [if_pos ⟨by rw [etsk]; simp [h0], h1, h2, by rw [ec]; exact h3⟩, ec, show thr G (nI 0) 28 k = nI m from em, ej, nI_clamp (by omega), nI_clamp (by omega)]
theorem r101 (hR : RS R) {w : Int32} {t : Nat} {H : Nat → Nat → Int32} (eH : H = thr G (nI 0)) (hI : Iv 8 t H) (ht : t < 2 ^ 30) : pE ns (d + 4) 101 [pm_r 20 0, pm_i w] (mm x R Z Y o A c G g) (.inl (some (pm_i (tmV H w))), mm x R Z Y o A c H g) := by
  subst eH
  refine en rfl (b101_0 hR (fun h => b101_60 hR (r51 hR) (b101_64 hR ?_)) (fun h => b101_55 hR ?_) (fun h => b101_50 hR ?_) (fun h => b101_45 hR (r76 hR hI.2.2.2.2.1) (b101_49 hR ?_)) (fun h => b101_40 hR ?_) (fun h1 h2 h3 h4 h5 => ?_))
  · simp [tmV, h]
  · simp [tmV, h]
  · simp [tmV, h]
  · simp [tmV, h]
  · simp [tmV, h]
  · have e : tmV (thr G (nI 0)) w = if ¬ w < 0 ∧ ¬ nI 63 < w ∧ w < thr G (nI 0) 20 28 then thr G (nI 0) 46 (((thr G (nI 0) 20 28).toNatClampNeg - 1 - w.toNatClampNeg) % 64) else -nI 1 := by
      unfold tmV
      rw [if_neg h1, if_neg h2, if_neg h3, if_neg h4, if_neg h5]
    rw [e]
    refine b101_65 hR (fun q => b101_83 hR ?_) (fun q => b101_69 hR (fun q2 => b101_83 hR ?_) (fun q2 => b101_75 hR (fun q3 => ?_) (fun q3 => b101_83 hR ?_)))
    · rw [if_neg (fun e => e.1 q)]
    · rw [if_neg (fun e => e.2.1 q2)]
    · obtain ⟨m, hm, em⟩ := wr_b hI
      change pm_v G 20 0 (nI 0) 20 28 = nI m at em
      obtain ⟨j, hj, ej⟩ := nI_of q
      have hjm : j < m := by
        have q3' := q3
        rw [em, ej, nI_ltI (by omega) (by omega)] at q3'
        exact q3'
      rw [if_pos ⟨q, q2, q3⟩]
      refine b101_87 hR (j1 := (m - 1 - j) % 64) ?_ (by omega) ?_
      · rw [em, ej, pk_sub (by omega), pk_sub (by omega), pk_rem (by omega) (by decide) (by decide)]
      · rw [show thr G (nI 0) 20 28 = nI m from em, ej, nI_clamp (by omega), nI_clamp (by omega)]
    · rw [if_neg (fun e => q3 e.2.2)]
end P3
