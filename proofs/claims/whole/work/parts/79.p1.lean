/-! @79.k1@ the reference's public methods: making, ending, files -/
def rdy (G : Nat → Nat → Int32) (p : Int32) : Bool := !decide (p < 0) && (!decide (nI 8 ≤ p) && decide (G 21 p.toNatClampNeg = nI 1))
theorem rdy_t {G : Nat → Nat → Int32} {p : Int32} (h : rdy G p = true) : ∃ k, k < 8 ∧ p = nI k ∧ G 21 k = nI 1 := by
  simp only [rdy, Bool.and_eq_true, Bool.not_eq_true', decide_eq_false_iff_not, decide_eq_true_eq] at h
  obtain ⟨h1, h2, h3⟩ := h
  rcases pk_ix p (n := 8) (by decide) with h | h | ⟨k, hk, e⟩
  · exact absurd h h1
  · exact absurd h h2
  · rw [e, nI_clamp (by omega)] at h3
    exact ⟨k, hk, e, h3⟩
theorem rdy_n {G : Nat → Nat → Int32} {k : Nat} (hk : k < 8) (h : G 21 k = nI 1) : rdy G (nI k) = true := by
  simp only [rdy, Bool.and_eq_true, Bool.not_eq_true', decide_eq_false_iff_not, decide_eq_true_eq]
  exact ⟨nI_pos (by omega), nI_ge hk (by decide), by rw [nI_clamp (by omega)]; exact h⟩
/-- the second one from k on, among n -/
def snd (P : Nat → Bool) (k : Nat) : Nat → Nat
  | 0 => k
  | n + 1 => if P k = true then fst P (k + 1) n else snd P (k + 1) n
theorem snd_le {P : Nat → Bool} : ∀ {n k : Nat}, k ≤ snd P k n ∧ snd P k n ≤ k + n
  | 0, k => ⟨Nat.le_refl _, Nat.le_refl _⟩
  | n + 1, k => by
    have h1 := fst_ge (P := P) (n := n) (k := k + 1)
    have h2 := fst_le (P := P) (n := n) (k := k + 1)
    have h3 := snd_le (P := P) (n := n) (k := k + 1)
    simp only [snd]
    split <;> omega
theorem snd_fst {P : Nat → Bool} : ∀ {n k : Nat}, snd P k n = if fst P k n < k + n then fst P (fst P k n + 1) (k + n - 1 - fst P k n) else k + n
  | 0, k => by simp [snd, fst]
  | n + 1, k => by
    simp only [snd, fst]
    split
    · rw [if_pos (by omega)]
      congr 1
      omega
    · rw [snd_fst]
      have : k + 1 + n = k + (n + 1) := by omega
      rw [this]
theorem fst_snd {P : Nat → Bool} {n k : Nat} (h : snd P k n < k + n) : fst P k n < snd P k n := by
  rw [snd_fst] at h ⊢
  split
  · exact fst_ge
  · rename_i h'
    rw [if_neg h'] at h
    omega
def cvN (n k : Nat) : Int32 := if k = n then -nI 1 else nI k
theorem cvN_neg {n k : Nat} (h : k ≤ n) (hn : n < 2 ^ 31) : cvN n k < 0 ↔ k = n := by
  unfold cvN
  split
  · rename_i e
    exact ⟨fun _ => e, fun _ => by decide⟩
  · rename_i e
    exact ⟨fun h' => absurd h' (nI_pos (by omega)), fun h' => absurd h' e⟩
/-- the free process that a fork makes; 8 if there is none -/
def fkq (G : Nat → Nat → Int32) : Nat := fst (fun k => decide (G 21 k = 0)) 1 7
def fkF (G : Nat → Nat → Int32) (p q : Nat) : Nat → Nat → Int32 := fun f k =>
  if f = 32 then (if 6 * q ≤ k ∧ k < 6 * q + 6 then G 32 (6 * p + (k - 6 * q)) else G 32 k)
  else if f = 33 then (if 8 * q ≤ k ∧ k < 8 * q + 8 then G 33 (8 * p + (k - 8 * q)) else G 33 k)
  else if k = q then (if f = 21 then nI 1 else if f = 22 then nI p else if f = 23 then G 23 p else if f = 24 then G 24 p else if f = 25 ∨ f = 26 ∨ f = 27 ∨ f = 28 ∨ f = 29 ∨ f = 31 ∨ f = 34 then nI 0 else G f k) else G f k
def zf (G : Nat → Nat → Int32) (p k : Nat) : Bool := decide (G 32 (6 * p + k) = 0)
/-- the least pipe that is none; 6 if there is none -/
def npi (G : Nat → Nat → Int32) : Nat := fst (fun k => !isp G k) 0 6
def ppF (G : Nat → Nat → Int32) (p a b k : Nat) : Nat → Nat → Int32 := pm_v (pm_v (pm_v G 43 k (nI 0)) 32 (6 * p + a) (nI (2 + 2 * k))) 32 (6 * p + b) (nI (3 + 2 * k))
theorem mv_dj {f a b N : Nat} (hd : ∀ i j, i < N → j < N → b + i ≠ a + j) : ∀ {n k : Nat} {G : Nat → Nat → Int32} {j : Nat}, k + n ≤ N → mv f a f b G k n f j = if a + k ≤ j ∧ j < a + k + n then G f (b + (j - a)) else G f j
  | 0, k, G, j, h => by
    rw [if_neg (by omega)]
    rfl
  | n + 1, k, G, j, h => by
    simp only [mv]
    rw [mv_dj hd (by omega)]
    split
    · rw [if_pos (by omega), v_k (by have := hd (j - a) k (by omega) (by omega); omega)]
    · by_cases e : j = a + k
      · subst e
        rw [v_eq, if_pos (by omega)]
        congr 1
        omega
      · rw [v_k e, if_neg (by omega)]
theorem iv_fk {t p q : Nat} {G : Nat → Nat → Int32} (hI : Iv 8 t G) (hp : p < 8) (h1 : G 21 p = nI 1) (hq1 : 1 ≤ q) (hq : q < 8) (hz : G 21 q = 0) : Iv 8 t (fkF G p q) := by
  have nd := nd
  have hne : p ≠ q := by
    intro e
    rw [e, hz, ← nI_0] at h1
    grind
  obtain ⟨⟨i1, i2, i3, i4, i5, i6, i7, i12⟩, i8, i9, i10, i11, i13⟩ := hI
  have e21 : ∀ k, fkF G p q 21 k = if k = q then nI 1 else G 21 k := fun k => by simp [fkF]
  have e22 : ∀ k, fkF G p q 22 k = if k = q then nI p else G 22 k := fun k => by simp [fkF]
  have e24 : ∀ k, fkF G p q 24 k = if k = q then G 24 p else G 24 k := fun k => by simp [fkF]
  have e25 : ∀ k, fkF G p q 25 k = if k = q then nI 0 else G 25 k := fun k => by simp [fkF]
  have e28 : ∀ k, fkF G p q 28 k = if k = q then nI 0 else G 28 k := fun k => by simp [fkF]
  have e34 : ∀ k, fkF G p q 34 k = if k = q then nI 0 else G 34 k := fun k => by simp [fkF]
  have e30 : ∀ k, fkF G p q 30 k = G 30 k := fun k => by simp [fkF]
  have e35 : ∀ k, fkF G p q 35 k = G 35 k := fun k => by simp [fkF]
  have e36 : ∀ k, fkF G p q 36 k = G 36 k := fun k => by simp [fkF]
  have e39 : ∀ k, fkF G p q 39 k = G 39 k := fun k => by simp [fkF]
  have e43 : ∀ k, fkF G p q 43 k = G 43 k := fun k => by simp [fkF]
  have e45 : ∀ k, fkF G p q 45 k = G 45 k := fun k => by simp [fkF]
  have e20 : ∀ k, fkF G p q 20 k = G 20 k := fun k => by simp [fkF]
  have e32 : ∀ k, fkF G p q 32 k = if 6 * q ≤ k ∧ k < 6 * q + 6 then G 32 (6 * p + (k - 6 * q)) else G 32 k := fun k => by simp [fkF]
  have e33 : ∀ k, fkF G p q 33 k = if 8 * q ≤ k ∧ k < 8 * q + 8 then G 33 (8 * p + (k - 8 * q)) else G 33 k := fun k => by simp [fkF]
  have e33' : ∀ r s, s < 8 → fkF G p q 33 (8 * r + s) = if r = q then G 33 (8 * p + s) else G 33 (8 * r + s) := by
    intro r s hs
    rw [e33]
    by_cases e : r = q
    · subst e
      rw [if_pos (by omega), if_pos rfl]
      congr 2
      omega
    · rw [if_neg (by omega), if_neg e]
  have e32' : ∀ r s, s < 6 → fkF G p q 32 (6 * r + s) = if r = q then G 32 (6 * p + s) else G 32 (6 * r + s) := by
    intro r s hs
    rw [e32]
    by_cases e : r = q
    · subst e
      rw [if_pos (by omega), if_pos rfl]
      congr 2
      omega
    · rw [if_neg (by omega), if_neg e]
  refine ⟨⟨?_, ?_, ?_, ?_, ?_, ?_, ?_, ?_⟩, ?_, ?_, ?_, ?_, ?_⟩
  · intro r hr
    rw [e21]
    have := i1 r hr
    grind
  · unfold I2 at i2 ⊢
    rw [e21, e22, if_neg (by omega), if_neg (by omega)]
    exact i2
  · intro r h1r hr hzr
    rw [e22]
    by_cases e : r = q
    · refine ⟨p, hp, by rw [if_pos e], by omega, ?_⟩
      unfold A1
      rw [e21, if_neg hne]
      exact Or.inl h1
    · rw [e21, if_neg e] at hzr
      obtain ⟨k, hk, e', hkr, ha⟩ := i3 r h1r hr hzr
      have hkq : k ≠ q := by
        intro e2
        unfold A1 at ha
        rw [e2, hz, ← nI_0] at ha
        grind
      refine ⟨k, hk, by rw [if_neg e]; exact e', hkr, ?_⟩
      unfold A1 at ha ⊢
      rw [e21, if_neg hkq]
      exact ha
  · intro r hr s hs
    rw [e33' r s hs]
    split
    · exact i4 p hp s hs
    · exact i4 r hr s hs
  · intro r hr he ha s hs1 hs
    by_cases e : r = q
    · rw [due_iff hs, e25, if_pos e, bt_0]
      rfl
    · rw [e21, if_neg e] at ha
      rw [due_congr (G := G) (by rw [e25, if_neg e]) (by rw [e24, if_neg e])]
      exact i5 r hr he ha s hs1 hs
  · intro r hr s hs1 hs h
    rw [e25]
    by_cases e : r = q
    · rw [if_pos e, bt_0]
    · rw [if_neg e]
      rw [e33' r s hs, if_neg e] at h
      exact i6 r hr s hs1 hs h
  · intro r hr
    rw [e34, e21, e30]
    have := i7 r hr
    by_cases e : r = q
    · rw [if_pos e, if_pos e]
      grind
    · rw [if_neg e, if_neg e]
      exact this
  · intro r hr
    rw [e28]
    split
    · exact ⟨0, by omega, rfl⟩
    · exact i12 r hr
  · intro r hr
    obtain ⟨f, hf, h35, ⟨n, hn, h36, hn1⟩, ha, hb⟩ := i8 r hr
    refine ⟨f, hf, by rw [e35]; exact h35, ⟨n, hn, by rw [e36]; exact h36, ?_⟩, ?_, ?_⟩
    · rw [e34]
      split
      · intro h
        grind
      · exact hn1
    · rw [e34, e32' r f hf]
      split
      · intro h
        grind
      · exact ha
    · rw [e34, e32' r f hf]
      split
      · intro h
        grind
      · exact hb
  · intro k hk
    rw [e32]
    split
    · exact i9 _ (by omega)
    · exact i9 _ hk
  · intro k hk
    rw [e43]
    exact i10 k hk
  · exact I11_congr e45 e20 i11
  · unfold I13 at i13 ⊢
    obtain ⟨hw, b, hb, h20, hs, hd⟩ := i13
    refine ⟨by rw [e20]; exact hw, b, hb, by rw [e20]; exact h20, ?_, ?_⟩
    · intro r hr h
      rw [e39]
      refine hs r hr ?_
      rw [e34] at h
      grind
    · intro r s hr hs' hrs h h'
      rw [e39, e39]
      rw [e34] at h h'
      exact hd r s hr hs' hrs (by grind) (by grind)
theorem iv_32 {t p f v : Nat} {G : Nat → Nat → Int32} (hI : Iv 8 t G) (hp : p < 8) (h0 : G 34 p = nI 0) (hf : f < 6) (hv : v < 14) : Iv 8 t (pm_v G 32 (6 * p + f) (nI v)) := by
  have nd := nd
  refine ⟨is_frame (fun f' hf' k => v_f (by omega)) hI.1, ?_, ?_, ?_, ?_, ?_⟩
  · intro r hr
    obtain ⟨f', hf', h35, ⟨n, hn, h36, hn1⟩, ha, hb⟩ := hI.2.1 r hr
    refine ⟨f', hf', by rw [v_f (by decide)]; exact h35, ⟨n, hn, by rw [v_f (by decide)]; exact h36, by rw [v_f (by decide)]; exact hn1⟩, ?_, ?_⟩
    · rw [v_f (by decide)]
      by_cases e : r = p
      · subst e
        intro h
        grind
      · rw [v_k (by omega)]
        exact ha
    · rw [v_f (by decide)]
      by_cases e : r = p
      · subst e
        intro h
        grind
      · rw [v_k (by omega)]
        exact hb
  · intro k hk
    by_cases e : k = 6 * p + f
    · subst e
      exact ⟨v, hv, v_eq⟩
    · rw [v_k e]
      exact hI.2.2.1 k hk
  · exact I10_congr (fun k => v_f (by decide)) hI.2.2.2.1
  · exact I11_congr (fun k => v_f (by decide)) (fun k => v_f (by decide)) hI.2.2.2.2.1
  · obtain ⟨hw, b, hb, h20, hs, hd⟩ := hI.2.2.2.2.2
    refine ⟨by rw [v_f (by decide)]; exact hw, b, hb, by rw [v_f (by decide)]; exact h20, ?_, ?_⟩
    · intro r hr h
      rw [v_f (by decide)] at h ⊢
      exact hs r hr h
    · intro r s hr hs' hrs h h'
      rw [v_f (by decide)] at h h'
      rw [v_f (by decide), v_f (by decide)]
      exact hd r s hr hs' hrs h h'
theorem iv_43 {t j m : Nat} {G : Nat → Nat → Int32} (hI : Iv 8 t G) (hm : m ≤ 12) : Iv 8 t (pm_v G 43 j (nI m)) := by
  refine ⟨is_frame (fun f' hf' k => v_f (by omega)) hI.1, ig_frame2 (fun f' hf' k => v_f (by omega)) (Nat.le_refl _) ?_ (I11_congr (fun k => v_f (by decide)) (fun k => v_f (by decide)) hI.2.2.2.2.1) (by rw [v_f (by decide)]; exact wr_b hI) (v_f (by decide)) hI.2⟩
  intro k hk
  by_cases e : k = j
  · subst e
    exact ⟨m, hm, v_eq⟩
  · rw [v_k e]
    exact hI.2.2.2.1 k hk
theorem iv_pp {t p a b k : Nat} {G : Nat → Nat → Int32} (hI : Iv 8 t G) (hp : p < 8) (h0 : G 34 p = nI 0) (ha : a < 6) (hb : b < 6) (hk : k < 6) : Iv 8 t (ppF G p a b k) := by
  refine iv_32 (iv_32 (iv_43 hI (by decide)) hp ?_ ha (by omega)) hp ?_ hb (by omega)
  · rw [v_f (by decide)]
    exact h0
  · rw [v_f (by decide), v_f (by decide)]
    exact h0
theorem h34_0 {t p : Nat} {G : Nat → Nat → Int32} (hI : Iv 8 t G) (hp : p < 8) (h1 : G 21 p = nI 1) : G 34 p = nI 0 := by
  have nd := nd
  exact (hI.1.2.2.2.2.2.2.1 p hp).2.2.1 (by grind) (by grind)
section P1
variable {ns d x : Nat} {R : Nat → Nat → Nat → Option (Nat × Nat)} {Z A : Nat → Nat → Nat → Int32} {Y : Nat → Nat → Nat → Int64} {o : Int64} {c g : Nat → Int64} {G : Nat → Nat → Int32}
theorem r80 (hR : RS R) {p : Int32} : pE ns (d + 2) 80 [pm_r 20 0, pm_i p] (mm x R Z Y o A c G g) (.inl (some (pm_i (bI (rdy G p)))), mm x R Z Y o A c G g) := by
  refine en rfl (b80_0 hR (r47 hR) (t80_5 hR (fun h => ?_) (fun h => ?_)))
  · have : rdy G p = false := by
      rw [bI_0] at h
      simp only [rdy, ← Bool.and_assoc, h, Bool.false_and]
    rw [this, bI_f]
  · rw [bI_n0] at h
    simp only [Bool.and_eq_true, Bool.not_eq_true', decide_eq_false_iff_not] at h
    rcases pk_ix p (n := 8) (by decide) with h' | h' | ⟨k, hk, e⟩
    · exact absurd h' h.1
    · exact absurd h' h.2
    · have ec : p.toNatClampNeg = k := by rw [e, nI_clamp (by omega)]
      refine b80_8 hR e hk (fun h1 => b80_18 hR ?_) (fun h1 => b80_22 hR ?_)
      · simp [rdy, h.1, h.2, ec, h1, bI_t]
      · simp [rdy, ec, h1, bI_f]
theorem r81n (hR : RS R) {p q : Int32} (h : rdy G p = false) (hq : q = nI 1 ∨ q = nI 2) : pE ns (d + 3) 81 [pm_r 20 0, pm_i p, pm_i q] (mm x R Z Y o A c G g) (.inl (some (pm_i (nI 0))), mm x R Z Y o A c (thr G q) g) := by
  have h80 := r80 (ns := ns) (d := d) (x := x) (Z := Z) (Y := Y) (o := o) (A := A) (c := c) (g := g) (G := G) hR (p := p)
  rw [h, bI_f] at h80
  refine en rfl (b81_0 hR h80 (t81_6 hR (fun _ h' => ?_) (fun _ h' => rfl) (fun h' => absurd (by decide) h') (fun h' => absurd (by decide) h')))
  rw [v_eq] at h'
  rcases hq with e | e <;> rw [e] at h' <;> exact absurd h' (by decide)
theorem r81 (hR : RS R) {p : Nat} {q : Int32} (hp : p < 8) (h : G 21 p = nI 1) : pE ns (d + 3) 81 [pm_r 20 0, pm_i (nI p), pm_i q] (mm x R Z Y o A c G g) (.inl (some (pm_i (nI 1))), mm x R Z Y o A c (thr G (nI 0)) g) := by
  have h80 := r80 (ns := ns) (d := d) (x := x) (Z := Z) (Y := Y) (o := o) (A := A) (c := c) (g := g) (G := G) hR (p := nI p)
  rw [rdy_n hp h, bI_t] at h80
  refine en rfl (b81_0 hR h80 (t81_6 hR (fun h' => absurd h' (by decide)) (fun h' => absurd h' (by decide)) (fun _ h' => rfl) (fun _ h' => absurd ?_ h')))
  rw [v_eq]
  rfl
/-- what the public methods that may throw do with one who isn't ready -/
theorem r82n (hR : RS R) {p : Int32} (h : rdy G p = false) : pE ns (d + 4) 82 [pm_r 20 0, pm_i p] (mm x R Z Y o A c G g) (.inl (some (pm_i (nI 0))), mm x R Z Y o A c (thr G (nI 1)) g) := en rfl (b82_0 hR (r81n hR h (Or.inl rfl)) (t82_6 hR (fun _ => rfl) (fun h => absurd (by decide) h)))
theorem r83n (hR : RS R) {p s : Int32} (h : rdy G p = false) : pE ns (d + 4) 83 [pm_r 20 0, pm_i p, pm_i s] (mm x R Z Y o A c G g) (.inl (some (pm_i (nI 0))), mm x R Z Y o A c (thr G (nI 1)) g) := en rfl (b83_0 hR (r81n hR h (Or.inl rfl)) (t83_6 hR (fun _ => rfl) (fun h => absurd (by decide) h) (fun h => absurd (by decide) h)))
theorem r84n (hR : RS R) {p : Int32} (h : rdy G p = false) : pE ns (d + 4) 84 [pm_r 20 0, pm_i p] (mm x R Z Y o A c G g) (.inl (some (pm_i (nI 0))), mm x R Z Y o A c (thr G (nI 1)) g) := en rfl (b84_0 hR (r81n hR h (Or.inl rfl)) (t84_6 hR (fun _ => rfl) (fun h => absurd (by decide) h)))
theorem r85n (hR : RS R) {p a b : Int32} (h : rdy G p = false) : pE ns (d + 4) 85 [pm_r 20 0, pm_i p, pm_i a, pm_i b] (mm x R Z Y o A c G g) (.inl (some (pm_i (nI 0))), mm x R Z Y o A c (thr G (nI 1)) g) := en rfl (b85_0 hR (r81n hR h (Or.inl rfl)) (t85_6 hR (fun _ => rfl) (fun h => absurd (by decide) h)))
theorem r86n (hR : RS R) {p a : Int32} (h : rdy G p = false) : pE ns (d + 4) 86 [pm_r 20 0, pm_i p, pm_i a] (mm x R Z Y o A c G g) (.inl (some (pm_i (nI 0))), mm x R Z Y o A c (thr G (nI 1)) g) := en rfl (b86_0 hR (r81n hR h (Or.inl rfl)) (t86_6 hR (fun _ => rfl) (fun h => absurd (by decide) h)))
theorem r82 (hR : RS R) {p t : Nat} {H : Nat → Nat → Int32} (eH : H = thr G (nI 0)) (hp : p < 8) (hI : Iv 8 t H) (ht : t + 700 < 2 ^ 30) (h1 : H 21 p = nI 1) : pE ns (d + 10) 82 [pm_r 20 0, pm_i (nI p)] (mm x R Z Y o A c G g) (.inl (some (pm_i (if fkq H = 8 then -nI 2 else nI (fkq H)))), mm x R Z Y o A c (if fkq H = 8 then H else settleF (fkF H p (fkq H)) g) g) := by
  have h81 := r81 (ns := ns) (d := d + 6) (x := x) (Z := Z) (Y := Y) (o := o) (A := A) (c := c) (g := g) (G := G) (q := nI 1) hR hp (by rw [eH] at h1; exact h1)
  rw [← eH] at h81
  refine en rfl (b82_0 hR h81 (t82_6 hR (fun h => absurd h (by decide)) (fun _ => ?_)))
  have key : ∀ n k, k + n = 8 → 1 ≤ k → (∀ j, 1 ≤ j → j < k → ¬ H 21 j = 0) → fkq H = fst (fun k => decide (H 21 k = 0)) k n → ∀ u, pW ns (d + 9) 82 13 [some (pm_r 20 0), some (pm_i (nI p)), some (pm_i (nI k)), u] [] (mm x R Z Y o A c H g) (fun r' => r' = (.inl (some (pm_i (if fkq H = 8 then -nI 2 else nI (fkq H)))), mm x R Z Y o A c (if fkq H = 8 then H else settleF (fkF H p (fkq H)) g) g)) := by
    intro n
    induction n with
    | zero =>
      intro k hk h1k hj hf u
      have e8 : k = 8 := by omega
      subst e8
      have e : fkq H = 8 := hf
      rw [if_pos e, if_pos e]
      exact t82_13 hR (fun _ _ => rfl) (fun _ h => absurd rfl h) (fun h => absurd (by decide) h)
    | succ n ih =>
      intro k hk h1k hj hf u
      have hk8 : k < 8 := by omega
      simp only [fst] at hf
      refine t82_13 hR (fun h => absurd h (nI_ge hk8 (by decide))) (fun h => absurd h (nI_ge hk8 (by decide))) (fun _ => b82_19 hR rfl hk8 (fun h0 => ?_) (fun h0 => b82_28 hR ?_))
      · rw [if_pos (by simpa using h0)] at hf
        have h8 : ¬ k = 8 := by omega
        have hpk : p ≠ k := by
          intro e
          rw [e, h0, ← nI_0] at h1
          exact absurd h1 (by decide)
        rw [hf, if_neg h8, if_neg h8]
        refine b82_34 hR (fun h => absurd (nI_inj h (by omega) (by decide)) h8) (fun _ => b82_43 hR rfl hk8 rfl hp ?_)
        have hS := r72 (ns := ns) (d := d) (x := x) (Z := Z) (Y := Y) (o := o) (A := A) (c := c) (g := g) hR (iv_fk hI hp h1 h1k hk8 h0) (by omega)
        -- the two loops
        have l2 : ∀ m j (G' : Nat → Nat → Int32), j + m = 8 → mv 33 (8 * k) 33 (8 * p) G' j m = fkF H p k → ∀ _ : True, pW ns (d + 9) 82 168 [some (pm_r 20 0), some (pm_i (nI p)), some (pm_i (nI k)), some (pm_i (nI j))] [] (mm x R Z Y o A c G' g) (fun r' => r' = (.inl (some (pm_i (nI k))), mm x R Z Y o A c (settleF (fkF H p k) g) g)) := by
          intro m
          induction m with
          | zero =>
            intro j G' hj e _
            have : j = 8 := by omega
            subst this
            simp only [mv] at e
            rw [e]
            exact t82_168 hR (fun _ => b82_202 hR hS (b82_206 hR rfl)) (fun h => absurd (by decide) h)
          | succ m ih2 =>
            intro j G' hj e _
            simp only [mv] at e
            refine t82_168 hR (fun h => absurd h (nI_ge (by omega) (by decide))) (fun _ => b82_174 hR (j1 := 8 * p + j) (j2 := 8 * k + j) (by rw [nI_m, nI_add]) (by omega) (by rw [nI_m, nI_add]) (by omega) ?_)
            rw [nI_s]
            exact ih2 (j + 1) _ (by omega) e trivial
        have l1 : ∀ m j (G' : Nat → Nat → Int32), j + m = 6 → mv 33 (8 * k) 33 (8 * p) (mv 32 (6 * k) 32 (6 * p) G' j m) 0 8 = fkF H p k → ∀ _ : True, pW ns (d + 9) 82 132 [some (pm_r 20 0), some (pm_i (nI p)), some (pm_i (nI k)), some (pm_i (nI j))] [] (mm x R Z Y o A c G' g) (fun r' => r' = (.inl (some (pm_i (nI k))), mm x R Z Y o A c (settleF (fkF H p k) g) g)) := by
          intro m
          induction m with
          | zero =>
            intro j G' hj e _
            have : j = 6 := by omega
            subst this
            exact t82_132 hR (fun _ => l2 8 0 G' rfl e trivial) (fun h => absurd (by decide) h)
          | succ m ih2 =>
            intro j G' hj e _
            rw [mv] at e
            refine t82_132 hR (fun h => absurd h (nI_ge (by omega) (by decide))) (fun _ => b82_138 hR (j1 := 6 * p + j) (j2 := 6 * k + j) (by rw [nI_m, nI_add]) (by omega) (by rw [nI_m, nI_add]) (by omega) ?_)
            rw [nI_s]
            exact ih2 (j + 1) _ (by omega) e trivial
        refine l1 6 0 _ rfl ?_ trivial
        funext f j
        by_cases h33 : f = 33
        · subst h33
          rw [mv_dj (N := 8) (by omega) (by omega)]
          simp only [Nat.add_zero]
          rw [mv_f (by decide), mv_f (by decide)]
          simp only [fkF, pm_v]
          simp
        · rw [mv_f h33]
          by_cases h32 : f = 32
          · subst h32
            rw [mv_dj (N := 6) (by omega) (by omega)]
            simp only [Nat.add_zero]
            simp only [fkF, pm_v]
            simp
          · rw [mv_f h32]
            simp only [fkF, pm_v, if_neg h33, if_neg h32]
            clear hf hS l1 l2 ih hj hI
            by_cases e : j = k
            · subst e
              simp only [and_true, if_true, hpk, and_false, if_false]
              by_cases f1 : f = 34
              · simp [f1]
              by_cases f2 : f = 31
              · simp [f2]
              by_cases f3 : f = 29
              · simp [f3]
              by_cases f4 : f = 28
              · simp [f4]
              by_cases f5 : f = 27
              · simp [f5]
              by_cases f6 : f = 26
              · simp [f6]
              by_cases f7 : f = 25
              · simp [f7]
              by_cases f8 : f = 24
              · simp [f8]
              by_cases f9 : f = 23
              · simp [f9]
              by_cases f10 : f = 22
              · simp [f10]
              by_cases f11 : f = 21
              · simp [f11]
              simp [f1, f2, f3, f4, f5, f6, f7, f8, f9, f10, f11]
            · simp [e]
      · rw [nI_s]
        rw [if_neg (by simpa using h0)] at hf
        refine ih (k + 1) (by omega) (by omega) ?_ hf _
        intro j h1j hj'
        by_cases e : j = k
        · rw [e]
          exact h0
        · exact hj j h1j (by omega)
  exact key 7 1 rfl (by decide) (fun j h1 h2 => absurd h1 (by omega)) rfl _
theorem r83 (hR : RS R) {p t : Nat} {s : Int32} {H : Nat → Nat → Int32} (eH : H = thr G (nI 0)) (hp : p < 8) (hI : Iv 8 t H) (ht : t + 700 < 2 ^ 30) (h1 : H 21 p = nI 1) : pE ns (d + 10) 83 [pm_r 20 0, pm_i (nI p), pm_i s] (mm x R Z Y o A c G g) (.inl (some (pm_i (if p = 0 then -nI 7 else nI 0))), mm x R Z Y o A c (if p = 0 then H else settleF (finishF H p (s &&& nI 63)) g) g) := by
  have h81 := r81 (ns := ns) (d := d + 6) (x := x) (Z := Z) (Y := Y) (o := o) (A := A) (c := c) (g := g) (G := G) (q := nI 1) hR hp (by rw [eH] at h1; exact h1)
  rw [← eH] at h81
  have hA : A1 H p := Or.inl h1
  refine en rfl (b83_0 hR h81 (t83_6 hR (fun h => absurd h (by decide)) (fun _ h => ?_) (fun _ h => ?_)))
  · have : p = 0 := nI_inj (h.trans nI_0.symm) (by omega) (by decide)
    rw [if_pos this, if_pos this]
  · have : ¬ p = 0 := fun e => h (by rw [e]; exact nI_0)
    rw [if_neg this, if_neg this]
    refine b83_18 hR (r59 (d := d + 5) hR (by omega) hp hI (Or.inr rfl) (by omega) hA) (b83_27 hR (r72 hR (iv_finish hI (by omega) hp (Or.inr rfl) hA) (by omega)) (b83_31 hR rfl))
theorem r84 (hR : RS R) {p t : Nat} {H : Nat → Nat → Int32} (eH : H = thr G (nI 0)) (hp : p < 8) (hI : Iv 8 t H) (ht : t + 700 < 2 ^ 30) (h1 : H 21 p = nI 1) : pE ns (d + 10) 84 [pm_r 20 0, pm_i (nI p)] (mm x R Z Y o A c G g) (.inl (some (pm_i (if snd (zf H p) 0 6 = 6 ∨ npi H = 6 then -nI 2 else nI (fst (zf H p) 0 6 + 8 * snd (zf H p) 0 6)))), mm x R Z Y o A c (if snd (zf H p) 0 6 = 6 ∨ npi H = 6 then H else settleF (ppF H p (fst (zf H p) 0 6) (snd (zf H p) 0 6) (npi H)) g) g) := by
  have h81 := r81 (ns := ns) (d := d + 6) (x := x) (Z := Z) (Y := Y) (o := o) (A := A) (c := c) (g := g) (G := G) (q := nI 1) hR hp (by rw [eH] at h1; exact h1)
  rw [← eH] at h81
  have h0 := h34_0 hI hp h1
  refine en rfl (b84_0 hR h81 (t84_6 hR (fun h => absurd h (by decide)) (fun _ => ?_)))
  generalize hQ : (fun r' : pm_O × pm_M => r' = ((.inl (some (pm_i (if snd (zf H p) 0 6 = 6 ∨ npi H = 6 then -nI 2 else nI (fst (zf H p) 0 6 + 8 * snd (zf H p) 0 6)))), mm x R Z Y o A c (if snd (zf H p) 0 6 = 6 ∨ npi H = 6 then H else settleF (ppF H p (fst (zf H p) 0 6) (snd (zf H p) 0 6) (npi H)) g) g) : pm_O × pm_M)) = Q
  have hs6 : snd (zf H p) 0 6 ≤ 6 := by
    have := (snd_le (P := zf H p) (n := 6) (k := 0)).2
    omega
  have bad : (snd (zf H p) 0 6 = 6 ∨ npi H = 6) → Q (.inl (some (pm_i (-nI 2))), mm x R Z Y o A c H g) := by
    intro h
    rw [← hQ, if_pos h, if_pos h]
  -- the end, once the pipe is found
  have fin : ∀ k, k < 6 → npi H = k → ¬ snd (zf H p) 0 6 = 6 → pW ns (d + 9) 84 88 [some (pm_r 20 0), some (pm_i (nI p)), some (pm_i (cvN 6 (fst (zf H p) 0 6))), some (pm_i (cvN 6 (snd (zf H p) 0 6))), some (pm_i (nI k))] [] (mm x R Z Y o A c H g) Q := by
    intro k hk hn hs
    have hfs := fst_snd (P := zf H p) (n := 6) (k := 0) (by omega)
    have e1 : cvN 6 (fst (zf H p) 0 6) = nI (fst (zf H p) 0 6) := if_neg (by omega)
    have e2 : cvN 6 (snd (zf H p) 0 6) = nI (snd (zf H p) 0 6) := if_neg hs
    have hbad : ¬ (snd (zf H p) 0 6 = 6 ∨ npi H = 6) := by omega
    have hS := r72 (ns := ns) (d := d) (x := x) (Z := Z) (Y := Y) (o := o) (A := A) (c := c) (g := g) hR (iv_pp (a := fst (zf H p) 0 6) (b := snd (zf H p) 0 6) (k := k) hI hp h0 (by omega) (by omega) hk) (by omega)
    rw [e1, e2]
    refine b84_88 hR rfl hk (j2 := 6 * p + fst (zf H p) 0 6) (by rw [nI_m, nI_add]) (by omega) (j3 := 6 * p + snd (zf H p) 0 6) (by rw [nI_m, nI_add]) (by omega) (by rw [nI_m, nI_add, nI_add]; exact hS) (b84_134 hR ?_)
    rw [← hQ, if_neg hbad, if_neg hbad, hn, nI_m, nI_add]
  have lp : ∀ n k, k + n = 6 → npi H = fst (fun k => !isp H k) k n → pW ns (d + 9) 84 52 [some (pm_r 20 0), some (pm_i (nI p)), some (pm_i (cvN 6 (fst (zf H p) 0 6))), some (pm_i (cvN 6 (snd (zf H p) 0 6))), some (pm_i (nI k))] [] (mm x R Z Y o A c H g) Q := by
    intro n
    induction n with
    | zero =>
      intro k hk hn
      have : k = 6 := by omega
      subst this
      exact t84_52 hR (fun _ _ => bad (Or.inr hn)) (fun _ _ _ => bad (Or.inr hn)) (fun _ _ h => absurd rfl h) (fun h => absurd (by decide) h)
    | succ n ih =>
      intro k hk hn
      have hk6 : k < 6 := by omega
      simp only [fst] at hn
      refine t84_52 hR (fun h => absurd h (nI_ge hk6 (by decide))) (fun h => absurd h (nI_ge hk6 (by decide))) (fun h => absurd h (nI_ge hk6 (by decide))) (fun _ => b84_59 hR (r50 (d := d + 7) hR) (t84_65 hR (fun h h' => ?_) (fun h h' h6 => ?_) (fun h h' h6 => ?_) (fun h => ?_)))
      · exact bad (Or.inl ((cvN_neg hs6 (by decide)).mp h'))
      · exact absurd (nI_inj h6 (by omega) (by decide)) (by omega)
      · rw [if_pos (by rw [bI_0.mp h]; rfl)] at hn
        exact fin k hk6 hn (fun e => h' ((cvN_neg hs6 (by decide)).mpr e))
      · rw [nI_s]
        rw [if_neg (by rw [bI_n0.mp h]; decide)] at hn
        exact ih (k + 1) (by omega) hn
  have sc : ∀ j, j ≤ 6 → pW ns (d + 9) 84 18 [some (pm_r 20 0), some (pm_i (nI p)), some (pm_i (cvN 6 (fst (zf H p) j (6 - j)))), some (pm_i (cvN 6 (snd (zf H p) j (6 - j)))), some (pm_i (nI j - nI 1))] [] (mm x R Z Y o A c H g) Q := by
    intro j
    induction j with
    | zero =>
      intro _
      exact t84_18 hR (fun _ => lp 6 0 rfl rfl) (fun h => absurd (by decide) h)
    | succ j ih =>
      intro hj
      have ih := ih (by omega)
      have e1 : nI (j + 1) - nI 1 = nI j := pk_sub (by omega)
      have e2 : nI j + pm_c (-1) = nI j - nI 1 := by
        cases j with
        | zero => decide
        | succ j => rw [pk_sub (by omega)]; exact pk_m1 j
      have e6 : 6 - j = (6 - (j + 1)) + 1 := by omega
      rw [e6] at ih
      rw [e1]
      refine t84_18 hR (fun h => absurd h (nI_pos (by omega))) (fun _ => b84_23 hR (j1 := 6 * p + j) (by rw [nI_m, nI_add]) (by omega) (fun h => b84_38 hR ?_) (fun h => b84_43 hR ?_))
      · have hz : zf H p j = true := by simpa [zf] using h
        simp only [fst, snd, if_pos hz] at ih
        rw [e2]
        rw [show cvN 6 j = nI j from if_neg (by omega)] at ih
        exact ih
      · have hz : ¬ zf H p j = true := by simpa [zf] using h
        simp only [fst, snd, if_neg hz] at ih
        rw [e2]
        exact ih
  exact sc 6 (Nat.le_refl _)
/-- the value of a file of p; -1 where there is no such file -/
def fof (G : Nat → Nat → Int32) (p : Nat) (f : Int32) : Int32 := if ¬ f < 0 ∧ f ≤ nI 5 then G 32 (6 * p + f.toNatClampNeg) else -nI 1
theorem fof_ix {G : Nat → Nat → Int32} {p : Nat} {f : Int32} (h : ¬ fof G p f < 0) : ∃ k, k < 6 ∧ f = nI k ∧ fof G p f = G 32 (6 * p + k) := by
  unfold fof at h ⊢
  split
  · rename_i h'
    obtain ⟨k, hk, e⟩ := nI_of2 (n := 5) (by decide) h'.1 h'.2
    refine ⟨k, by omega, e, ?_⟩
    rw [e, nI_clamp (by omega)]
  · rename_i h'
    rw [if_neg h'] at h
    exact absurd (by decide) h
def cyF (G : Nat → Nat → Int32) (p : Nat) (a b : Int32) : Nat → Nat → Int32 := pm_v G 32 (6 * p + b.toNatClampNeg) (fof G p a)
theorem iv_cy {t p : Nat} {a b : Int32} {G : Nat → Nat → Int32} (hI : Iv 8 t G) (hp : p < 8) (h0 : G 34 p = nI 0) (ha : ¬ fof G p a ≤ 0) (hb : ¬ fof G p b < 0) : Iv 8 t (cyF G p a b) := by
  obtain ⟨k, hk, e, ef⟩ := fof_ix hb
  obtain ⟨k', hk', e', ef'⟩ := fof_ix (G := G) (p := p) (f := a) (fun h => ha (Int32.le_of_lt h))
  obtain ⟨v, hv, ev⟩ := hI.2.2.1 (6 * p + k') (by omega)
  unfold cyF
  rw [e, nI_clamp (by omega), ef', ev]
  exact iv_32 hI hp h0 hk hv
theorem r85 (hR : RS R) {p t : Nat} {a b : Int32} {H : Nat → Nat → Int32} (eH : H = thr G (nI 0)) (hp : p < 8) (hI : Iv 8 t H) (ht : t + 700 < 2 ^ 30) (h1 : H 21 p = nI 1) : pE ns (d + 10) 85 [pm_r 20 0, pm_i (nI p), pm_i a, pm_i b] (mm x R Z Y o A c G g) (.inl (some (pm_i (if fof H p a ≤ 0 ∨ fof H p b < 0 then -nI 1 else b))), mm x R Z Y o A c (if fof H p a ≤ 0 ∨ fof H p b < 0 then H else settleF (cyF H p a b) g) g) := by
  have h81 := r81 (ns := ns) (d := d + 6) (x := x) (Z := Z) (Y := Y) (o := o) (A := A) (c := c) (g := g) (G := G) (q := nI 1) hR hp (by rw [eH] at h1; exact h1)
  rw [← eH] at h81
  have h0 := h34_0 hI hp h1
  refine en rfl (b85_0 hR h81 (t85_6 hR (fun h => absurd h (by decide)) (fun _ => b85_11 hR (r52 (d := d + 8) hR hp) (t85_17 hR (fun h => ?_) (fun h => b85_20 hR (r52 (d := d + 8) hR hp) (t85_26 hR (fun h' => ?_) (fun h' => ?_)))))))
  · change fof H p a ≤ 0 at h
    rw [if_pos (Or.inl h), if_pos (Or.inl h)]
  · have hb : ¬ fof H p b < 0 := by rw [Int32.not_lt]; exact h'
    have hn : ¬ (fof H p a ≤ 0 ∨ fof H p b < 0) := fun e => e.elim h hb
    obtain ⟨k, hk, e, ef⟩ := fof_ix hb
    obtain ⟨k', hk', e', ef'⟩ := fof_ix (G := H) (p := p) (f := a) (fun h' => h (Int32.le_of_lt h'))
    have hS := r72 (ns := ns) (d := d) (x := x) (Z := Z) (Y := Y) (o := o) (A := A) (c := c) (g := g) hR (iv_cy hI hp h0 h hb) (by omega)
    rw [if_neg hn, if_neg hn]
    refine b85_31 hR (j1 := 6 * p + k') (j2 := 6 * p + k) (by rw [e', nI_m, nI_add]) (by omega) (by rw [e, nI_m, nI_add]) (by omega) ?_ (b85_57 hR rfl)
    unfold cyF at hS ⊢
    rw [e, nI_clamp (by omega), ef'] at hS ⊢
    exact hS
  · have hb : fof H p b < 0 := by rw [← Int32.not_le]; exact h'
    rw [if_pos (Or.inr hb), if_pos (Or.inr hb)]
theorem r86 (hR : RS R) {p t : Nat} {a : Int32} {H : Nat → Nat → Int32} (eH : H = thr G (nI 0)) (hp : p < 8) (hI : Iv 8 t H) (ht : t + 700 < 2 ^ 30) (h1 : H 21 p = nI 1) : pE ns (d + 10) 86 [pm_r 20 0, pm_i (nI p), pm_i a] (mm x R Z Y o A c G g) (.inl (some (pm_i (if fof H p a ≤ 0 then -nI 1 else nI 0))), mm x R Z Y o A c (if fof H p a ≤ 0 then H else settleF (pm_v H 32 (6 * p + a.toNatClampNeg) (nI 0)) g) g) := by
  have h81 := r81 (ns := ns) (d := d + 6) (x := x) (Z := Z) (Y := Y) (o := o) (A := A) (c := c) (g := g) (G := G) (q := nI 1) hR hp (by rw [eH] at h1; exact h1)
  rw [← eH] at h81
  have h0 := h34_0 hI hp h1
  refine en rfl (b86_0 hR h81 (t86_6 hR (fun h => absurd h (by decide)) (fun _ => b86_11 hR (r52 (d := d + 8) hR hp) (t86_17 hR (fun h => ?_) (fun h => ?_)))))
  · have h' : ¬ fof H p a ≤ 0 := by rw [Int32.not_le]; exact h
    obtain ⟨k', hk', e', ef'⟩ := fof_ix (G := H) (p := p) (f := a) (fun h'' => h' (Int32.le_of_lt h''))
    rw [if_neg h', if_neg h', e', nI_clamp (by omega)]
    exact b86_22 hR (j1 := 6 * p + k') (by rw [nI_m, nI_add]) (by omega) (r72 hR (iv_32 hI hp h0 hk' (by decide)) (by omega)) (b86_38 hR rfl)
  · have h' : fof H p a ≤ 0 := by rw [← Int32.not_lt]; exact h
    rw [if_pos h', if_pos h']
end P1
