/-! @79.p1 71.b7@ the reference's public methods: calls, signals, groups -/
def badR (v : Int32) : Bool := decide (v ≤ 0) || (!decide (v ≤ nI 1) && decide (v - v / nI 2 * nI 2 = nI 1))
def badW (v : Int32) : Bool := decide (v ≤ 0) || decide (v - v / nI 2 * nI 2 = 0)
def badN (n : Int32) : Bool := decide (n < nI 1) || !decide (n ≤ nI 8)
def tfF (G : Nat → Nat → Int32) (p : Nat) (a n : Int32) : Nat → Nat → Int32 := pm_v (pm_v G 35 p a) 36 p n
def badS (t s : Int32) : Bool := decide (s < nI 1) || (decide (nI 8 < s) || (decide (t < -nI 8) || !decide (t ≤ nI 7)))
def sgl (G : Nat → Nat → Int32) (t : Int32) : Bool := if t < 0 then ispt G (-nI 1 - t) else lv G t.toNatClampNeg
def sgF (G : Nat → Nat → Int32) (t : Int32) (s : Nat) : Nat → Nat → Int32 := if t < 0 then cpF G (-nI 1 - t) s else comF G t.toNatClampNeg s
def badA (s h : Int32) : Bool := decide (s < nI 1) || (decide (nI 7 < s) || (decide (h < 0) || !decide (h ≤ nI 2)))
def acF (G : Nat → Nat → Int32) (p s : Nat) (h : Int32) : Nat → Nat → Int32 := if h = nI 1 then fgt (pm_v G 33 (8 * p + s) h) p s else pm_v G 33 (8 * p + s) h
def mkF (G : Nat → Nat → Int32) (p : Nat) (b : Int32) : Nat → Nat → Int32 := delF (pm_v G 24 p (b &&& nI 254)) p
def gok (G : Nat → Nat → Int32) (p : Nat) (q w : Int32) : Bool := !decide (q < 0) && (!decide (nI 8 ≤ q) && (!decide (q ≤ 0) && (lv G q.toNatClampNeg && ((decide (q = nI p) || decide (G 22 q.toNatClampNeg = nI p)) && (decide (w = q) || ispt G w)))))
def fok (G : Nat → Nat → Int32) (p : Nat) (w : Int32) : Bool := ispt G w && (decide (p = 0) || decide (G 23 p = G 20 25))
theorem badN_f {n : Int32} (h : badN n = false) : ∃ k, 1 ≤ k ∧ k ≤ 8 ∧ n = nI k := by
  simp only [badN, Bool.or_eq_false_iff, Bool.not_eq_false', decide_eq_false_iff_not, decide_eq_true_eq] at h
  have h0 : ¬ n < 0 := fun h' => h.1 (Int32.lt_trans h' (by decide))
  obtain ⟨k, hk, e⟩ := nI_of2 (n := 8) (by decide) h0 h.2
  refine ⟨k, ?_, hk, e⟩
  have := h.1
  rw [e, nI_ltI (by omega) (by decide)] at this
  omega
theorem badS_f {t s : Int32} (h : badS t s = false) : (∃ k, 1 ≤ k ∧ k ≤ 8 ∧ s = nI k) ∧ (¬ t < 0 → ∃ k, k < 8 ∧ t = nI k) := by
  simp only [badS, Bool.or_eq_false_iff, Bool.not_eq_false', decide_eq_false_iff_not, decide_eq_true_eq] at h
  obtain ⟨h1, h2, h3, h4⟩ := h
  constructor
  · have h0 : ¬ s < 0 := fun h' => h1 (Int32.lt_trans h' (by decide))
    obtain ⟨k, hk, e⟩ := nI_of2 (n := 8) (M := nI 8) (by decide) h0 (by rw [← Int32.not_lt]; exact h2)
    refine ⟨k, ?_, hk, e⟩
    rw [e, nI_ltI (by omega) (by decide)] at h1
    omega
  · intro h0
    obtain ⟨k, hk, e⟩ := nI_of2 (n := 7) (by decide) h0 h4
    exact ⟨k, by omega, e⟩
theorem badA_f {s h : Int32} (hb : badA s h = false) : (∃ k, 1 ≤ k ∧ k < 8 ∧ s = nI k) ∧ (h = nI 0 ∨ h = nI 1 ∨ h = nI 2) := by
  simp only [badA, Bool.or_eq_false_iff, Bool.not_eq_false', decide_eq_false_iff_not, decide_eq_true_eq] at hb
  obtain ⟨h1, h2, h3, h4⟩ := hb
  constructor
  · have h0 : ¬ s < 0 := fun h' => h1 (Int32.lt_trans h' (by decide))
    obtain ⟨k, hk, e⟩ := nI_of2 (n := 7) (M := nI 7) (by decide) h0 (by rw [← Int32.not_lt]; exact h2)
    refine ⟨k, ?_, by omega, e⟩
    rw [e, nI_ltI (by omega) (by decide)] at h1
    omega
  · obtain ⟨k, hk, e⟩ := nI_of2 (n := 2) (by decide) h3 h4
    rcases (show k = 0 ∨ k = 1 ∨ k = 2 by omega) with h | h | h <;> subst h
    · exact Or.inl e
    · exact Or.inr (Or.inl e)
    · exact Or.inr (Or.inr e)
theorem iv_tf {t p k n : Nat} {G : Nat → Nat → Int32} (hI : Iv 8 t G) (hp : p < 8) (h0 : G 34 p = nI 0) (hk : k < 6) (hn : n ≤ 8) : Iv 8 t (tfF G p (nI k) (nI n)) := by
  have nd := nd
  unfold tfF
  refine ⟨is_frame (fun f' hf' k => by rw [v_f (by omega), v_f (by omega)]) hI.1, ?_, ?_, ?_, ?_, ?_⟩
  · intro r hr
    obtain ⟨f', hf', h35, ⟨m, hm, h36, hn1⟩, ha, hb⟩ := hI.2.1 r hr
    by_cases e : r = p
    · subst e
      refine ⟨k, hk, by rw [v_f (by decide), v_eq], ⟨n, hn, v_eq, ?_⟩, ?_, ?_⟩ <;> (rw [v_f (by decide), v_f (by decide)]; intro h; grind)
    · refine ⟨f', hf', by rw [v_f (by decide), v_k e]; exact h35, ⟨m, hm, by rw [v_k e, v_f (by decide)]; exact h36, ?_⟩, ?_, ?_⟩
      · rw [v_f (by decide), v_f (by decide)]
        exact hn1
      · rw [v_f (by decide), v_f (by decide), v_f (by decide), v_f (by decide)]
        exact ha
      · rw [v_f (by decide), v_f (by decide), v_f (by decide), v_f (by decide)]
        exact hb
  · intro k hk
    rw [v_f (by decide), v_f (by decide)]
    exact hI.2.2.1 k hk
  · exact I10_congr (fun k => by rw [v_f (by decide), v_f (by decide)]) hI.2.2.2.1
  · exact I11_congr (fun k => by rw [v_f (by decide), v_f (by decide)]) (fun k => by rw [v_f (by decide), v_f (by decide)]) hI.2.2.2.2.1
  · obtain ⟨hw, b, hb, h20, hs, hd⟩ := hI.2.2.2.2.2
    refine ⟨by rw [v_f (by decide), v_f (by decide)]; exact hw, b, hb, by rw [v_f (by decide), v_f (by decide)]; exact h20, ?_, ?_⟩
    · intro r hr h
      rw [v_f (by decide), v_f (by decide)] at h ⊢
      exact hs r hr h
    · intro r s hr hs' hrs h h'
      rw [v_f (by decide), v_f (by decide)] at h h'
      rw [v_f (by decide), v_f (by decide), v_f (by decide), v_f (by decide)]
      exact hd r s hr hs' hrs h h'
/-- a write into a family of which the invariant does not speak -/
theorem iv_oth {t f k : Nat} {v : Int32} {G : Nat → Nat → Int32} (hI : Iv 8 t G) (hf : f = 23 ∨ f = 38 ∨ f = 26 ∨ f = 27 ∨ f = 29 ∨ f = 31 ∨ f = 40 ∨ f = 41 ∨ f = 42 ∨ f = 46 ∨ f = 44) : Iv 8 t (pm_v G f k v) := by
  refine ⟨is_frame (fun f' hf' k => v_f (by omega)) hI.1, ig_frame2 (fun f' hf' k => v_f (by omega)) (Nat.le_refl _) (I10_congr (fun k => v_f (by omega)) hI.2.2.2.1) (I11_congr (fun k => v_f (by omega)) (fun k => v_f (by omega)) hI.2.2.2.2.1) (by rw [v_f (by omega)]; exact wr_b hI) (v_f (by omega)) hI.2⟩
theorem iv_25f {t : Nat} {v : Int32} {G : Nat → Nat → Int32} (hI : Iv 8 t G) : Iv 8 t (pm_v G 20 25 v) := iv_tty hI (fun f k h1 h2 h3 => v_f h1) (v_k (by decide)) (v_k (by decide)) (I11_congr2 (fun k => v_f (by decide)) (v_k (by decide)) (v_k (by decide)) hI.2.2.2.2.1)
theorem iv_24 {t p : Nat} {v : Int32} {G : Nat → Nat → Int32} (hI : Iv 8 t G) : Iv p t (pm_v G 24 p v) := by
  obtain ⟨⟨i1, i2, i3, i4, i5, i6, i7, i12⟩, hg⟩ := hI
  refine ⟨⟨i1, i2, i3, i4, ?_, i6, i7, i12⟩, ig_frame2 (fun f' hf' k => v_f (by omega)) (Nat.le_refl _) (I10_congr (fun k => v_f (by omega)) hg.2.2.1) (I11_congr (fun k => v_f (by omega)) (fun k => v_f (by omega)) hg.2.2.2.1) (by rw [v_f (by omega)]; exact hg.2.2.2.2.1) (v_f (by omega)) hg⟩
  intro q hq hne ha s hs1 hs
  rw [due_congr (G := G) (v_f (by decide)) (v_k hne)]
  exact i5 q hq (by omega) (by rw [v_f (by decide)] at ha; exact ha) s hs1 hs
theorem iv_mk {t p : Nat} {b : Int32} {G : Nat → Nat → Int32} (hI : Iv 8 t G) (hp : p < 8) : Iv 8 (t + 7) (mkF G p b) := iv_del (iv_24 hI) hp
theorem iv_ac {t p s : Nat} {h : Int32} {G : Nat → Nat → Int32} (hI : Iv 8 t G) (hp : p < 8) (hs1 : 1 ≤ s) (hs : s < 8) (hh : h = nI 0 ∨ h = nI 1 ∨ h = nI 2) : Iv 8 t (acF G p s h) := by
  have nd := nd
  obtain ⟨⟨i1, i2, i3, i4, i5, i6, i7, i12⟩, hg⟩ := hI
  have i4' : ∀ (G' : Nat → Nat → Int32), (∀ k, G' 33 k = pm_v G 33 (8 * p + s) h 33 k) → I4 G' := by
    intro G' e q hq s' hs'
    rw [e]
    by_cases e2 : 8 * q + s' = 8 * p + s
    · rw [e2, v_eq]
      exact hh
    · rw [v_k e2]
      exact i4 q hq s' hs'
  have hg' : ∀ (G' : Nat → Nat → Int32), (∀ f k, f ≠ 33 → f ≠ 25 → G' f k = G f k) → Ig t G' := by
    intro G' e
    exact ig_frame2 (fun f' hf' k => e _ _ (by omega) (by omega)) (Nat.le_refl _) (I10_congr (fun k => e _ _ (by omega) (by omega)) hg.2.2.1) (I11_congr (fun k => e _ _ (by omega) (by omega)) (fun k => e _ _ (by omega) (by omega)) hg.2.2.2.1) (by rw [e _ _ (by omega) (by omega)]; exact hg.2.2.2.2.1) (e _ _ (by omega) (by omega)) hg
  unfold acF
  split
  · rename_i h1
    refine ⟨⟨i1, i2, i3, i4' _ (fun k => v_f (by decide)), ?_, ?_, i7, i12⟩, hg' _ (fun f k h1 h2 => by unfold fgt; rw [v_f h2, v_f h1])⟩
    · intro q hq hne ha s' hs1' hs'
      by_cases e : q = p
      · subst e
        rw [due_fgt hs hs', due_congr (G := G) (v_f (by decide)) (v_f (by decide)), i5 q hq hne ha s' hs1' hs']
        rfl
      · rw [due_congr (G := G) (by unfold fgt; rw [v_k e, v_f (by decide)]) (by unfold fgt; rw [v_f (by decide), v_f (by decide)])]
        exact i5 q hq hne ha s' hs1' hs'
    · intro q hq s' hs1' hs' hx
      unfold fgt at hx ⊢
      rw [v_f (by decide)] at hx
      by_cases e : q = p
      · subst e
        rw [v_eq, v_f (by decide), bt_fg hs hs']
        by_cases e2 : s' = s
        · subst e2
          simp
        · rw [v_k (by omega)] at hx
          rw [i6 q hq s' hs1' hs' hx]
          rfl
      · rw [v_k e, v_f (by decide)]
        rw [v_k (by omega)] at hx
        exact i6 q hq s' hs1' hs' hx
  · rename_i h1
    refine ⟨⟨i1, i2, i3, i4' _ (fun k => rfl), ?_, ?_, i7, i12⟩, hg' _ (fun f k h1 h2 => v_f h1)⟩
    · intro q hq hne ha s' hs1' hs'
      rw [due_congr (G := G) (v_f (by decide)) (v_f (by decide))]
      exact i5 q hq hne ha s' hs1' hs'
    · intro q hq s' hs1' hs' hx
      rw [v_f (by decide)]
      by_cases e : 8 * q + s' = 8 * p + s
      · rw [e, v_eq] at hx
        exact absurd hx h1
      · rw [v_k e] at hx
        exact i6 q hq s' hs1' hs' hx
theorem iv_sg {t p s : Nat} {to : Int32} {G : Nat → Nat → Int32} (hI : Iv 8 t G) (hs : s ≤ 8) (ht : ¬ to < 0 → ∃ k, k < 8 ∧ to = nI k) : Iv 8 (t + 56) (sgF G to s) := by
  unfold sgF
  split
  · exact iv_cp hI hs
  · rename_i h
    obtain ⟨k, hk, e⟩ := ht h
    rw [e, nI_clamp (by omega)]
    exact iv_mono (iv_com hI hk hs) (by omega)
theorem cl_rd {t p : Nat} {a n : Int32} {w : Int32} {G : Nat → Nat → Int32} (hI : Iv 8 t G) (hp : p < 8) (hn : badN n = false) (h : (w = nI 1 ∧ badR (fof G p a) = false) ∨ (w = nI 2 ∧ badW (fof G p a) = false)) : ∃ k m, k < 6 ∧ a = nI k ∧ 1 ≤ m ∧ m ≤ 8 ∧ n = nI m ∧ Cl (pm_v (tfF G p a n) 34 p w) p := by
  obtain ⟨m, hm1, hm, em⟩ := badN_f hn
  have hp0 : ¬ fof G p a ≤ 0 := by
    rcases h with ⟨-, h⟩ | ⟨-, h⟩ <;> simp only [badR, badW, Bool.or_eq_false_iff, decide_eq_false_iff_not] at h <;> exact h.1
  obtain ⟨k, hk, ek, ef⟩ := fof_ix (fun h' => hp0 (Int32.le_of_lt h'))
  obtain ⟨v, hv, ev⟩ := hI.2.2.1 (6 * p + k) (by omega)
  rw [ev] at ef
  refine ⟨k, m, hk, ek, hm1, hm, em, k, hk, ?_, ⟨m, hm, ?_, fun _ => hm1⟩, ?_, ?_⟩
  · unfold tfF
    rw [v_f (by decide), v_f (by decide), v_eq, ek]
  · unfold tfF
    rw [v_f (by decide), v_eq, em]
  · intro hw
    rw [v_eq] at hw
    unfold tfF
    rw [v_f (by decide), v_f (by decide), v_f (by decide), ev]
    rcases h with ⟨-, h⟩ | ⟨e, -⟩
    · simp only [badR, Bool.or_eq_false_iff, decide_eq_false_iff_not, Bool.and_eq_false_iff, Bool.not_eq_false', decide_eq_true_eq] at h
      rw [ef, ← nI_0, nI_leI (by omega) (by decide), nI_leI (by omega) (by decide), pk_rem (by omega) (by decide) (by decide), nI_eq (by omega) (by decide)] at h
      rcases h.2 with h2 | h2
      · exact Or.inl (by rw [show v = 1 by omega])
      · exact Or.inr ⟨v / 2 - 1, by omega, by rw [show 2 + 2 * (v / 2 - 1) = v by omega]⟩
    · rw [e] at hw
      exact absurd hw (by decide)
  · intro hw
    rw [v_eq] at hw
    unfold tfF
    rw [v_f (by decide), v_f (by decide), v_f (by decide), ev]
    rcases h with ⟨e, -⟩ | ⟨-, h⟩
    · rw [e] at hw
      exact absurd hw (by decide)
    · simp only [badW, Bool.or_eq_false_iff, decide_eq_false_iff_not] at h
      rw [ef, ← nI_0, nI_leI (by omega) (by decide), pk_rem (by omega) (by decide) (by decide), nI_eq (by omega) (by decide)] at h
      by_cases e1 : v = 1
      · exact Or.inl (by rw [e1])
      · exact Or.inr ⟨v / 2 - 1, by omega, by rw [show 3 + 2 * (v / 2 - 1) = v by omega]⟩
theorem cl_oth {t p : Nat} {w : Int32} {G : Nat → Nat → Int32} (hI : Iv 8 t G) (hp : p < 8) (hw : w = nI 3 ∨ w = nI 4) : Cl (pm_v G 34 p w) p := by
  obtain ⟨f, hf, h35, ⟨m, hm, h36, hn1⟩, ha, hb⟩ := hI.2.1 p hp
  refine ⟨f, hf, by rw [v_f (by decide)]; exact h35, ⟨m, hm, by rw [v_f (by decide)]; exact h36, ?_⟩, ?_, ?_⟩ <;> (rw [v_eq]; intro h; rcases hw with e | e <;> rw [e] at h <;> exact absurd h (by decide))
section P2
variable {ns d x : Nat} {R : Nat → Nat → Nat → Option (Nat × Nat)} {Z A : Nat → Nat → Nat → Int32} {Y : Nat → Nat → Nat → Int64} {o : Int64} {c g : Nat → Int64} {G : Nat → Nat → Int32}
theorem r87n (hR : RS R) {p n : Int32} (h : rdy G p = false) : pE ns (d + 4) 87 [pm_r 20 0, pm_i p, pm_i n] (mm x R Z Y o A c G g) (.inl (some (pm_i (nI 0))), mm x R Z Y o A c (thr G (nI 2)) g) := en rfl (b87_0 hR (r81n hR h (Or.inr rfl)) (t87_6 hR (fun _ => rfl) (fun h => absurd (by decide) h) (fun h => absurd (by decide) h) (fun h => absurd (by decide) h) (fun h => absurd (by decide) h) (fun h => absurd (by decide) h) (fun h => absurd (by decide) h)))
theorem r87b (hR : RS R) {p : Nat} {n : Int32} (hp : p < 8) (h1 : G 21 p = nI 1) (hn : badN n = true) : pE ns (d + 4) 87 [pm_r 20 0, pm_i (nI p), pm_i n] (mm x R Z Y o A c G g) (.inl (some (pm_i (nI 0))), mm x R Z Y o A c (thr G (nI 1)) g) := by
  have e : thr G (nI 1) = pm_v (thr G (nI 0)) 20 0 (nI 1) := v_v.symm
  rw [e]
  refine en rfl (b87_0 hR (r81 hR hp h1) (t87_6 hR (fun h => absurd h (by decide)) (fun _ _ h => ?_) (fun _ _ _ => rfl) (fun _ h h' => ?_) (fun _ h h' => ?_) (fun _ _ _ h => ?_) (fun _ _ _ _ => rfl)))
  · rw [v_eq] at h
    exact absurd h (by decide)
  · simp [badN, h, h'] at hn
  · simp [badN, h, h'] at hn
  · rw [v_eq] at h
    exact absurd h (by decide)
theorem r87 (hR : RS R) {p : Nat} {n : Int32} (hp : p < 8) (h1 : G 21 p = nI 1) (hn : badN n = false) : pE ns (d + 4) 87 [pm_r 20 0, pm_i (nI p), pm_i n] (mm x R Z Y o A c G g) (.inl (some (pm_i (nI 1))), mm x R Z Y o A c (thr G (nI 0)) g) := by
  have e : thr G (nI 0) = pm_v (thr G (nI 0)) 20 0 (nI 0) := v_v.symm
  simp only [badN, Bool.or_eq_false_iff, Bool.not_eq_false', decide_eq_false_iff_not, decide_eq_true_eq] at hn
  rw [e]
  refine en rfl (b87_0 hR (r81 hR hp h1) (t87_6 hR (fun h => absurd h (by decide)) (fun _ h => absurd h hn.1) (fun _ h => absurd h hn.1) (fun _ h h' _ => rfl) (fun _ h h' h2 => ?_) (fun _ _ h => absurd hn.2 h) (fun _ _ h => absurd hn.2 h)))
  rw [v_eq] at h2
  exact absurd (by decide) h2
theorem r88n (hR : RS R) {p a n : Int32} (h : rdy G p = false) : pE ns (d + 5) 88 [pm_r 20 0, pm_i p, pm_i a, pm_i n] (mm x R Z Y o A c G g) (.inl (some (pm_i (nI 0))), mm x R Z Y o A c (thr G (nI 2)) g) := en rfl (b88_0 hR (r87n hR h) (t88_6 hR (fun _ => rfl) (fun h => absurd (by decide) h)))
theorem r88b (hR : RS R) {p : Nat} {a n : Int32} (hp : p < 8) (h1 : G 21 p = nI 1) (hn : badN n = true) : pE ns (d + 5) 88 [pm_r 20 0, pm_i (nI p), pm_i a, pm_i n] (mm x R Z Y o A c G g) (.inl (some (pm_i (nI 0))), mm x R Z Y o A c (thr G (nI 1)) g) := en rfl (b88_0 hR (r87b hR hp h1 hn) (t88_6 hR (fun _ => rfl) (fun h => absurd (by decide) h)))
theorem r88 (hR : RS R) {p t : Nat} {a n : Int32} {H : Nat → Nat → Int32} (eH : H = thr G (nI 0)) (hp : p < 8) (hI : Iv 8 t H) (ht : t + 700 < 2 ^ 30) (h1 : H 21 p = nI 1) (hn : badN n = false) : pE ns (d + 11) 88 [pm_r 20 0, pm_i (nI p), pm_i a, pm_i n] (mm x R Z Y o A c G g) (.inl (some (pm_i (if badR (fof H p a) = true then -nI 1 else bgV (nI 1) (tfF H p a n) p))), mm x R Z Y o A c (if badR (fof H p a) = true then H else beF (nI 1) (tfF H p a n) g p) g) := by
  have h87 := r87 (ns := ns) (d := d + 6) (x := x) (Z := Z) (Y := Y) (o := o) (A := A) (c := c) (g := g) (G := G) (n := n) hR hp (by rw [eH] at h1; exact h1) hn
  rw [← eH] at h87
  have hgo : badR (fof H p a) = false → ∀ v, pW ns (d + 10) 88 40 [some (pm_r 20 0), some (pm_i (nI p)), some (pm_i a), some (pm_i n), v] [] (mm x R Z Y o A c H g) (fun r' => r' = (.inl (some (pm_i (if badR (fof H p a) = true then -nI 1 else bgV (nI 1) (tfF H p a n) p))), mm x R Z Y o A c (if badR (fof H p a) = true then H else beF (nI 1) (tfF H p a n) g p) g)) := by
    intro hb v
    obtain ⟨k, m, hk, ek, hm1, hm, em, hc⟩ := cl_rd (w := nI 1) hI hp hn (Or.inl ⟨rfl, hb⟩)
    have hI' : Iv 8 t (tfF H p a n) := by rw [ek, em]; exact iv_tf hI hp (h34_0 hI hp h1) hk hm
    have hE := r74 (ns := ns) (d := d) (x := x) (Z := Z) (Y := Y) (o := o) (A := A) (c := c) (g := g) (w := nI 1) hR hp hI' ht (by unfold tfF; rw [v_f (by decide), v_f (by decide)]; exact h1) (Or.inl rfl) hc
    refine b88_40 hR rfl hp hE (b88_60 hR ?_)
    rw [if_neg (by rw [hb]; decide), if_neg (by rw [hb]; decide)]
  refine en rfl (b88_0 hR h87 (t88_6 hR (fun h => absurd h (by decide)) (fun _ => b88_11 hR (r52 (d := d + 9) hR hp) (t88_17 hR (fun h => ?_) (fun h h' => ?_) (fun h h' h2 => ?_) (fun h h' h2 => ?_)))))
  · change fof H p a ≤ 0 at h
    have hb : badR (fof H p a) = true := by simp [badR, h]
    rw [if_pos hb, if_pos hb]
  · change ¬ fof H p a ≤ 0 at h
    change fof H p a ≤ nI 1 at h'
    exact hgo (by simp [badR, h, h']) _
  · change ¬ fof H p a ≤ 0 at h
    change ¬ fof H p a ≤ nI 1 at h'
    change fof H p a - fof H p a / nI 2 * nI 2 = nI 1 at h2
    have hb : badR (fof H p a) = true := by simp [badR, h', h2]
    rw [if_pos hb, if_pos hb]
  · change ¬ fof H p a ≤ 0 at h
    change ¬ fof H p a - fof H p a / nI 2 * nI 2 = nI 1 at h2
    exact hgo (by simp [badR, h, h2]) _
theorem r89n (hR : RS R) {p a n : Int32} {b : Int64} (h : rdy G p = false) : pE ns (d + 5) 89 [pm_r 20 0, pm_i p, pm_i a, pm_l b, pm_i n] (mm x R Z Y o A c G g) (.inl (some (pm_i (nI 0))), mm x R Z Y o A c (thr G (nI 2)) g) := en rfl (b89_0 hR (r87n hR h) (t89_7 hR (fun _ => rfl) (fun h => absurd (by decide) h)))
theorem r89b (hR : RS R) {p : Nat} {a n : Int32} {b : Int64} (hp : p < 8) (h1 : G 21 p = nI 1) (hn : badN n = true) : pE ns (d + 5) 89 [pm_r 20 0, pm_i (nI p), pm_i a, pm_l b, pm_i n] (mm x R Z Y o A c G g) (.inl (some (pm_i (nI 0))), mm x R Z Y o A c (thr G (nI 1)) g) := en rfl (b89_0 hR (r87b hR hp h1 hn) (t89_7 hR (fun _ => rfl) (fun h => absurd (by decide) h)))
theorem r89 (hR : RS R) {p t : Nat} {a n : Int32} {b : Int64} {H : Nat → Nat → Int32} (eH : H = thr G (nI 0)) (hp : p < 8) (hI : Iv 8 t H) (ht : t + 700 < 2 ^ 30) (h1 : H 21 p = nI 1) (hn : badN n = false) : pE ns (d + 11) 89 [pm_r 20 0, pm_i (nI p), pm_i a, pm_l b, pm_i n] (mm x R Z Y o A c G g) (.inl (some (pm_i (if badW (fof H p a) = true then -nI 1 else bgV (nI 2) (tfF H p a n) p))), if badW (fof H p a) = true then mm x R Z Y o A c H g else mm x R Z Y o A c (beF (nI 2) (tfF H p a n) (pm_w g p b) p) (pm_w g p b)) := by
  have h87 := r87 (ns := ns) (d := d + 6) (x := x) (Z := Z) (Y := Y) (o := o) (A := A) (c := c) (g := g) (G := G) (n := n) hR hp (by rw [eH] at h1; exact h1) hn
  rw [← eH] at h87
  refine en rfl (b89_0 hR h87 (t89_7 hR (fun h => absurd h (by decide)) (fun _ => b89_12 hR (r52 (d := d + 9) hR hp) (t89_18 hR (fun h => ?_) (fun h h' => ?_) (fun h h' => ?_)))))
  · change fof H p a ≤ 0 at h
    have hb : badW (fof H p a) = true := by simp [badW, h]
    rw [if_pos hb, if_pos hb]
  · change fof H p a - fof H p a / nI 2 * nI 2 = 0 at h'
    have hb : badW (fof H p a) = true := by simp [badW, h']
    rw [if_pos hb, if_pos hb]
  · change ¬ fof H p a ≤ 0 at h
    change ¬ fof H p a - fof H p a / nI 2 * nI 2 = 0 at h'
    have hb : badW (fof H p a) = false := by simp [badW, h, h']
    obtain ⟨k, m, hk, ek, hm1, hm, em, hc⟩ := cl_rd (w := nI 2) hI hp hn (Or.inr ⟨rfl, hb⟩)
    have hI' : Iv 8 t (tfF H p a n) := by rw [ek, em]; exact iv_tf hI hp (h34_0 hI hp h1) hk hm
    have hE := r74 (ns := ns) (d := d) (x := x) (Z := Z) (Y := Y) (o := o) (A := A) (c := c) (g := pm_w g p b) (w := nI 2) hR hp hI' ht (by unfold tfF; rw [v_f (by decide), v_f (by decide)]; exact h1) (Or.inr (Or.inl rfl)) hc
    refine b89_34 hR rfl hp hE (b89_62 hR ?_)
    rw [if_neg (by rw [hb]; decide), if_neg (by rw [hb]; decide)]
theorem r90n (hR : RS R) {p a : Int32} (h : rdy G p = false) : pE ns (d + 4) 90 [pm_r 20 0, pm_i p, pm_i a] (mm x R Z Y o A c G g) (.inl (some (pm_i (nI 0))), mm x R Z Y o A c (thr G (nI 1)) g) := en rfl (b90_0 hR (r81n hR h (Or.inl rfl)) (t90_6 hR (fun _ => rfl) (fun h => absurd (by decide) h)))
theorem r90 (hR : RS R) {p t : Nat} {b : Int32} {H : Nat → Nat → Int32} (eH : H = thr G (nI 0)) (hp : p < 8) (hI : Iv 8 t H) (ht : t + 700 < 2 ^ 30) (h1 : H 21 p = nI 1) (hb : b = 0 ∨ b = 1) : pE ns (d + 11) 90 [pm_r 20 0, pm_i (nI p), pm_i b] (mm x R Z Y o A c G g) (.inl (some (pm_i (bgV (nI 3) (pm_v H 38 p b) p))), mm x R Z Y o A c (beF (nI 3) (pm_v H 38 p b) g p) g) := by
  have h81 := r81 (ns := ns) (d := d + 7) (x := x) (Z := Z) (Y := Y) (o := o) (A := A) (c := c) (g := g) (G := G) (q := nI 1) hR hp (by rw [eH] at h1; exact h1)
  rw [← eH] at h81
  have hI' : Iv 8 t (pm_v H 38 p b) := iv_oth hI (by omega)
  exact en rfl (b90_0 hR h81 (t90_6 hR (fun h => absurd h (by decide)) (fun _ => b90_11 hR rfl hp hb (r74 hR hp hI' ht (by rw [v_f (by decide)]; exact h1) (Or.inr (Or.inr (Or.inl rfl))) (cl_oth hI' hp (Or.inl rfl))) (b90_24 hR rfl))))
theorem r91n (hR : RS R) {p : Int32} (h : rdy G p = false) : pE ns (d + 4) 91 [pm_r 20 0, pm_i p] (mm x R Z Y o A c G g) (.inl (some (pm_i (nI 0))), mm x R Z Y o A c (thr G (nI 1)) g) := en rfl (b91_0 hR (r81n hR h (Or.inl rfl)) (t91_6 hR (fun _ => rfl) (fun h => absurd (by decide) h)))
theorem r91 (hR : RS R) {p t : Nat} {H : Nat → Nat → Int32} (eH : H = thr G (nI 0)) (hp : p < 8) (hI : Iv 8 t H) (ht : t + 700 < 2 ^ 30) (h1 : H 21 p = nI 1) : pE ns (d + 11) 91 [pm_r 20 0, pm_i (nI p)] (mm x R Z Y o A c G g) (.inl (some (pm_i (bgV (nI 4) H p))), mm x R Z Y o A c (beF (nI 4) H g p) g) := by
  have h81 := r81 (ns := ns) (d := d + 7) (x := x) (Z := Z) (Y := Y) (o := o) (A := A) (c := c) (g := g) (G := G) (q := nI 1) hR hp (by rw [eH] at h1; exact h1)
  rw [← eH] at h81
  exact en rfl (b91_0 hR h81 (t91_6 hR (fun h => absurd h (by decide)) (fun _ => b91_9 hR (r74 hR hp hI ht h1 (Or.inr (Or.inr (Or.inr rfl))) (cl_oth hI hp (Or.inr rfl))) (b91_15 hR rfl))))
theorem r92n (hR : RS R) {p a b : Int32} (h : rdy G p = false) : pE ns (d + 4) 92 [pm_r 20 0, pm_i p, pm_i a, pm_i b] (mm x R Z Y o A c G g) (.inl (some (pm_i (nI 0))), mm x R Z Y o A c (thr G (nI 2)) g) := en rfl (b92_0 hR (r81n hR h (Or.inr rfl)) (t92_6 hR (fun _ => rfl) (fun h => absurd (by decide) h) (fun h => absurd (by decide) h) (fun h => absurd (by decide) h) (fun h => absurd (by decide) h) (fun h => absurd (by decide) h) (fun h => absurd (by decide) h)))
theorem r92b (hR : RS R) {p : Nat} {a b : Int32} (hp : p < 8) (h1 : G 21 p = nI 1) (hb : badS a b = true) : pE ns (d + 4) 92 [pm_r 20 0, pm_i (nI p), pm_i a, pm_i b] (mm x R Z Y o A c G g) (.inl (some (pm_i (nI 0))), mm x R Z Y o A c (thr G (nI 1)) g) := by
  have e : thr G (nI 1) = pm_v (thr G (nI 0)) 20 0 (nI 1) := v_v.symm
  rw [e]
  refine en rfl (b92_0 hR (r81 hR hp h1) (t92_6 hR (fun h => absurd h (by decide)) (fun _ _ => rfl) (fun _ _ _ => rfl) (fun _ _ _ _ => rfl) (fun _ h2 h3 h4 h5 => ?_) (fun _ h2 h3 h4 h5 => ?_) (fun _ _ _ _ _ => rfl)))
  · simp [badS, h2, h3, h4, h5] at hb
  · simp [badS, h2, h3, h4, h5] at hb
theorem r92 (hR : RS R) {p t : Nat} {a b : Int32} {H : Nat → Nat → Int32} (eH : H = thr G (nI 0)) (hp : p < 8) (hI : Iv 8 t H) (ht : t + 700 < 2 ^ 30) (h1 : H 21 p = nI 1) (hb : badS a b = false) : pE ns (d + 10) 92 [pm_r 20 0, pm_i (nI p), pm_i a, pm_i b] (mm x R Z Y o A c G g) (.inl (some (pm_i (if sgl H a = true then nI 0 else -nI 8))), mm x R Z Y o A c (if sgl H a = true then settleF (sgF H a b.toNatClampNeg) g else H) g) := by
  have h81 := r81 (ns := ns) (d := d + 6) (x := x) (Z := Z) (Y := Y) (o := o) (A := A) (c := c) (g := g) (G := G) (q := nI 2) hR hp (by rw [eH] at h1; exact h1)
  rw [← eH] at h81
  obtain ⟨⟨s, hs1, hs, es⟩, hto⟩ := badS_f hb
  simp only [badS, Bool.or_eq_false_iff, Bool.not_eq_false', decide_eq_false_iff_not, decide_eq_true_eq] at hb
  obtain ⟨q1, q2, q3, q4⟩ := hb
  subst es
  rw [nI_clamp (by omega)]
  have hS := r72 (ns := ns) (d := d) (x := x) (Z := Z) (Y := Y) (o := o) (A := A) (c := c) (g := g) hR (iv_sg (p := 0) (s := s) hI hs hto) (by omega)
  refine en rfl (b92_0 hR h81 (t92_6 hR (fun h => absurd h (by decide)) (fun _ h => absurd h q1) (fun _ _ h => absurd h q2) (fun _ _ _ h => absurd h q3) (fun _ _ _ _ _ h => ?_) (fun _ _ _ _ _ h => ?_) (fun _ _ _ _ h => absurd q4 h)))
  · have e1 : sgl H a = ispt H (-nI 1 - a) := if_pos h
    have e2 : sgF H a s = cpF H (-nI 1 - a) s := if_pos h
    rw [e1, e2]
    rw [e2] at hS
    refine b92_56 hR (r53 (d := d + 7) hR) (t92_63 hR (fun h' => ?_) (fun h' _ => ?_) (fun _ h' => absurd h h'))
    · rw [if_neg (by rw [bI_0.mp h']; decide), if_neg (by rw [bI_0.mp h']; decide)]
    · rw [if_pos (bI_n0.mp h'), if_pos (bI_n0.mp h')]
      exact b92_82 hR (r63 (d := d + 1) hR hs1 hs hI (by omega)) (b92_90 hR hS (b92_94 hR rfl))
  · obtain ⟨k, hk, ek⟩ := hto h
    have ec : a.toNatClampNeg = k := by rw [ek, nI_clamp (by omega)]
    have e1 : sgl H a = lv H k := by unfold sgl; rw [if_neg h, ec]
    have e2 : sgF H a s = comF H k s := by unfold sgF; rw [if_neg h, ec]
    rw [e1, e2]
    rw [e2] at hS
    subst ek
    refine b92_45 hR (r48 (d := d + 8) hR hk) (t92_50 hR (fun h' => ?_) (fun _ h' => absurd h' h) (fun h' _ => ?_))
    · rw [if_neg (by rw [bI_0.mp h']; decide), if_neg (by rw [bI_0.mp h']; decide)]
    · rw [if_pos (bI_n0.mp h'), if_pos (bI_n0.mp h')]
      exact b92_73 hR (r62 (d := d + 2) hR hk hs1 hs hI (by omega)) (b92_79 hR hS (b92_94 hR rfl))
theorem r93n (hR : RS R) {p a b : Int32} (h : rdy G p = false) : pE ns (d + 4) 93 [pm_r 20 0, pm_i p, pm_i a, pm_i b] (mm x R Z Y o A c G g) (.inl (some (pm_i (nI 0))), mm x R Z Y o A c (thr G (nI 2)) g) := en rfl (b93_0 hR (r81n hR h (Or.inr rfl)) (t93_6 hR (fun _ => rfl) (fun h => absurd (by decide) h) (fun h => absurd (by decide) h) (fun h => absurd (by decide) h) (fun h => absurd (by decide) h) (fun h => absurd (by decide) h)))
theorem r93b (hR : RS R) {p : Nat} {a b : Int32} (hp : p < 8) (h1 : G 21 p = nI 1) (hb : badA a b = true) : pE ns (d + 4) 93 [pm_r 20 0, pm_i (nI p), pm_i a, pm_i b] (mm x R Z Y o A c G g) (.inl (some (pm_i (nI 0))), mm x R Z Y o A c (thr G (nI 1)) g) := by
  have e : thr G (nI 1) = pm_v (thr G (nI 0)) 20 0 (nI 1) := v_v.symm
  rw [e]
  refine en rfl (b93_0 hR (r81 hR hp h1) (t93_6 hR (fun h => absurd h (by decide)) (fun _ _ => rfl) (fun _ _ _ => rfl) (fun _ _ _ _ => rfl) (fun _ h2 h3 h4 h5 => ?_) (fun _ h2 h3 h4 h5 => rfl)))
  simp [badA, h2, h3, h4, h5] at hb
theorem r93 (hR : RS R) {p t : Nat} {a b : Int32} {H : Nat → Nat → Int32} (eH : H = thr G (nI 0)) (hp : p < 8) (hI : Iv 8 t H) (ht : t + 700 < 2 ^ 30) (h1 : H 21 p = nI 1) (hb : badA a b = false) : pE ns (d + 10) 93 [pm_r 20 0, pm_i (nI p), pm_i a, pm_i b] (mm x R Z Y o A c G g) (.inl (some (pm_i (H 33 (8 * p + a.toNatClampNeg)))), mm x R Z Y o A c (settleF (acF H p a.toNatClampNeg b) g) g) := by
  have h81 := r81 (ns := ns) (d := d + 6) (x := x) (Z := Z) (Y := Y) (o := o) (A := A) (c := c) (g := g) (G := G) (q := nI 2) hR hp (by rw [eH] at h1; exact h1)
  rw [← eH] at h81
  obtain ⟨⟨s, hs1, hs, es⟩, hh⟩ := badA_f hb
  simp only [badA, Bool.or_eq_false_iff, Bool.not_eq_false', decide_eq_false_iff_not, decide_eq_true_eq] at hb
  obtain ⟨q1, q2, q3, q4⟩ := hb
  subst es
  rw [nI_clamp (by omega)]
  have hS := r72 (ns := ns) (d := d) (x := x) (Z := Z) (Y := Y) (o := o) (A := A) (c := c) (g := g) hR (iv_ac (s := s) hI hp hs1 hs hh) (by omega)
  refine en rfl (b93_0 hR h81 (t93_6 hR (fun h => absurd h (by decide)) (fun _ h => absurd h q1) (fun _ _ h => absurd h q2) (fun _ _ _ h => absurd h q3) (fun _ _ _ _ _ => b93_38 hR (j1 := 8 * p + s) (by rw [nI_m, nI_add]) (by omega) (fun h => ?_) (fun h => ?_)) (fun _ _ _ _ h => absurd q4 h)))
  · have e : acF H p s b = fgt (pm_v H 33 (8 * p + s) b) p s := if_pos h
    rw [e] at hS ⊢
    exact b93_68 hR rfl hp hS (b93_90 hR rfl)
  · have e : acF H p s b = pm_v H 33 (8 * p + s) b := if_neg h
    rw [e] at hS ⊢
    exact b93_86 hR hS (b93_90 hR rfl)
theorem r94n (hR : RS R) {p a : Int32} (h : rdy G p = false) : pE ns (d + 4) 94 [pm_r 20 0, pm_i p, pm_i a] (mm x R Z Y o A c G g) (.inl (some (pm_i (nI 0))), mm x R Z Y o A c (thr G (nI 1)) g) := en rfl (b94_0 hR (r81n hR h (Or.inl rfl)) (t94_6 hR (fun _ => rfl) (fun h => absurd (by decide) h)))
theorem r94 (hR : RS R) {p t : Nat} {b : Int32} {H : Nat → Nat → Int32} (eH : H = thr G (nI 0)) (hp : p < 8) (hI : Iv 8 t H) (ht : t + 700 < 2 ^ 30) (h1 : H 21 p = nI 1) : pE ns (d + 10) 94 [pm_r 20 0, pm_i (nI p), pm_i b] (mm x R Z Y o A c G g) (.inl (some (pm_i (H 24 p))), mm x R Z Y o A c (settleF (mkF H p b) g) g) := by
  have h81 := r81 (ns := ns) (d := d + 6) (x := x) (Z := Z) (Y := Y) (o := o) (A := A) (c := c) (g := g) (G := G) (q := nI 1) hR hp (by rw [eH] at h1; exact h1)
  rw [← eH] at h81
  exact en rfl (b94_0 hR h81 (t94_6 hR (fun h => absurd h (by decide)) (fun _ => b94_11 hR rfl hp (r61 (d := d + 3) hR hp (iv_24 hI) (by omega)) (b94_34 hR (r72 hR (iv_mk hI hp) (by omega)) (b94_38 hR rfl)))))
theorem r95n (hR : RS R) {p a b : Int32} (h : rdy G p = false) : pE ns (d + 4) 95 [pm_r 20 0, pm_i p, pm_i a, pm_i b] (mm x R Z Y o A c G g) (.inl (some (pm_i (nI 0))), mm x R Z Y o A c (thr G (nI 1)) g) := en rfl (b95_0 hR (r81n hR h (Or.inl rfl)) (t95_6 hR (fun _ => rfl) (fun h => absurd (by decide) h)))
theorem r95 (hR : RS R) {p t : Nat} {a b : Int32} {H : Nat → Nat → Int32} (eH : H = thr G (nI 0)) (hp : p < 8) (hI : Iv 8 t H) (ht : t + 700 < 2 ^ 30) (h1 : H 21 p = nI 1) : pE ns (d + 10) 95 [pm_r 20 0, pm_i (nI p), pm_i a, pm_i b] (mm x R Z Y o A c G g) (.inl (some (pm_i (if gok H p a b = true then nI 0 else -nI 7))), mm x R Z Y o A c (if gok H p a b = true then settleF (pm_v H 23 a.toNatClampNeg b) g else H) g) := by
  have h81 := r81 (ns := ns) (d := d + 6) (x := x) (Z := Z) (Y := Y) (o := o) (A := A) (c := c) (g := g) (G := G) (q := nI 1) hR hp (by rw [eH] at h1; exact h1)
  rw [← eH] at h81
  refine en rfl (b95_0 hR h81 (t95_6 hR (fun h => absurd h (by decide)) (fun _ => ?_)))
  generalize hQ : (fun r' : pm_O × pm_M => r' = ((.inl (some (pm_i (if gok H p a b = true then nI 0 else -nI 7))), mm x R Z Y o A c (if gok H p a b = true then settleF (pm_v H 23 a.toNatClampNeg b) g else H) g) : pm_O × pm_M)) = Q
  have bad : gok H p a b = false → Q (.inl (some (pm_i (-nI 7))), mm x R Z Y o A c H g) := by
    intro h
    rw [← hQ, if_neg (by rw [h]; decide), if_neg (by rw [h]; decide)]
  refine b95_11 hR (r47 (d := d + 8) hR) (t95_16 hR (fun h => ?_) (fun h h' => ?_) (fun h h' => ?_))
  · rw [bI_0] at h
    refine bad ?_
    simp only [gok, ← Bool.and_assoc, h, Bool.false_and]
  · exact bad (by simp [gok, h'])
  · rw [bI_n0] at h
    simp only [Bool.and_eq_true, Bool.not_eq_true', decide_eq_false_iff_not] at h
    rcases pk_ix a (n := 8) (by decide) with h'' | h'' | ⟨k, hk, e⟩
    · exact absurd h'' h.1
    · exact absurd h'' h.2
    · have ec : a.toNatClampNeg = k := by rw [e, nI_clamp (by omega)]
      have hgk : gok H p a b = (lv H k && ((decide (a = nI p) || decide (H 22 k = nI p)) && (decide (b = a) || ispt H b))) := by simp only [gok, h.1, h.2, h', decide_false, Bool.not_false, Bool.true_and, ec]
      have fin : gok H p a b = true → ∀ u, pW ns (d + 9) 95 74 [some (pm_r 20 0), some (pm_i (nI p)), some (pm_i a), some (pm_i b), u] [] (mm x R Z Y o A c H g) Q := by
        intro hg u
        refine b95_74 hR e hk (r72 hR (iv_oth hI (by omega)) (by omega)) (b95_85 hR ?_)
        rw [← hQ, if_pos hg, if_pos hg, ec]
      have tst : (lv H k && (decide (a = nI p) || decide (H 22 k = nI p))) = true → ∀ u, pW ns (d + 9) 95 63 [some (pm_r 20 0), some (pm_i (nI p)), some (pm_i a), some (pm_i b), u] [] (mm x R Z Y o A c H g) Q ∨ b = a := by
        intro hl u
        by_cases hba : b = a
        · exact Or.inr hba
        · refine Or.inl (b95_63 hR (r53 (d := d + 7) hR) (t95_68 hR (fun h2 => bad ?_) (fun h2 => fin ?_ _)))
          · rw [hgk, bI_0.mp h2]
            simp [hba]
          · rw [hgk, bI_n0.mp h2]
            simpa using hl
      subst e
      refine b95_23 hR (r48 (d := d + 8) hR hk) (t95_28 hR (fun h2 => ?_) (fun h2 h3 h4 => ?_) (fun h2 h3 h4 => ?_) (fun h2 h3 => ?_))
      · exact bad (by rw [hgk, bI_0.mp h2]; rfl)
      · exact fin (by rw [hgk, bI_n0.mp h2]; simp [h3, h4]) _
      · exact (tst (by rw [bI_n0.mp h2]; simp [h3]) _).resolve_right h4
      · refine b95_36 hR rfl hk (fun h4 => b95_46 hR (fun h => absurd h (by decide)) (fun _ => b95_58 hR (fun h5 => ?_) (fun h5 => ?_))) (fun h4 => b95_50 hR (fun _ => b95_71 hR (bad ?_)) (fun h => absurd (by decide) h))
        · exact fin (by rw [hgk, bI_n0.mp h2]; simp [h4, h5]) _
        · exact (tst (by rw [bI_n0.mp h2]; simp [h4]) _).resolve_right h5
        · rw [hgk]
          simp [h3, h4]
theorem r96n (hR : RS R) {p a : Int32} (h : rdy G p = false) : pE ns (d + 4) 96 [pm_r 20 0, pm_i p, pm_i a] (mm x R Z Y o A c G g) (.inl (some (pm_i (nI 0))), mm x R Z Y o A c (thr G (nI 1)) g) := en rfl (b96_0 hR (r81n hR h (Or.inl rfl)) (t96_6 hR (fun _ => rfl) (fun h => absurd (by decide) h)))
theorem r96 (hR : RS R) {p t : Nat} {a : Int32} {H : Nat → Nat → Int32} (eH : H = thr G (nI 0)) (hp : p < 8) (hI : Iv 8 t H) (ht : t + 700 < 2 ^ 30) (h1 : H 21 p = nI 1) : pE ns (d + 10) 96 [pm_r 20 0, pm_i (nI p), pm_i a] (mm x R Z Y o A c G g) (.inl (some (pm_i (if fok H p a = true then nI 0 else -nI 7))), mm x R Z Y o A c (if fok H p a = true then settleF (pm_v H 20 25 a) g else H) g) := by
  have h81 := r81 (ns := ns) (d := d + 6) (x := x) (Z := Z) (Y := Y) (o := o) (A := A) (c := c) (g := g) (G := G) (q := nI 1) hR hp (by rw [eH] at h1; exact h1)
  rw [← eH] at h81
  have hS := r72 (ns := ns) (d := d) (x := x) (Z := Z) (Y := Y) (o := o) (A := A) (c := c) (g := g) hR (iv_25f (v := a) hI) (by omega)
  refine en rfl (b96_0 hR h81 (t96_6 hR (fun h => absurd h (by decide)) (fun _ => b96_11 hR (r53 (d := d + 7) hR) (t96_16 hR (fun h => ?_) (fun h h' => ?_) (fun h h' => ?_)))))
  · have e : fok H p a = false := by simp [fok, bI_0.mp h]
    rw [if_neg (by rw [e]; decide), if_neg (by rw [e]; decide)]
  · have e0 : p = 0 := nI_inj (h'.trans nI_0.symm) (by omega) (by decide)
    have e : fok H p a = true := by simp [fok, bI_n0.mp h, e0]
    rw [if_pos e, if_pos e]
    exact b96_39 hR hS (b96_48 hR rfl)
  · have e0 : ¬ p = 0 := fun e => h' (by rw [e]; exact nI_0)
    refine b96_23 hR rfl hp (fun h2 => ?_) (fun h2 => b96_36 hR ?_)
    · have e : fok H p a = true := by simp [fok, bI_n0.mp h, h2]
      rw [if_pos e, if_pos e]
      exact b96_39 hR hS (b96_48 hR rfl)
    · have e : fok H p a = false := by simp [fok, e0, h2]
      rw [if_neg (by rw [e]; decide), if_neg (by rw [e]; decide)]
end P2
