/-! @77.st 71.b5 71.b6@ the reference: settling, answering, beginning a call -/
def an0 (G : Nat → Nat → Int32) (b : Int64) (p : Nat) : Nat → Nat → Int32 := if pfV G p = -nI 6 then comF (pm_v (pfF G b p) 34 p (nI 0)) p 2 else pm_v (pfF G b p) 34 p (nI 0)
def blF (w : Int32) (G : Nat → Nat → Int32) (p : Nat) : Nat → Nat → Int32 := pm_v (pm_v (pm_v (pm_v (pm_v G 34 p w) 21 p (nI 2)) 26 p (-nI 9)) 39 p (G 20 20)) 20 20 (G 20 20 + nI 1)
def bgF (w : Int32) (G : Nat → Nat → Int32) (g : Nat → Int64) (p : Nat) : Nat → Nat → Int32 := if chW w G p = 1 then (if pvW w G p = -nI 6 then comF (pfW w G (g p) p) p 2 else pfW w G (g p) p) else blF w G p
def bgV (w : Int32) (G : Nat → Nat → Int32) (p : Nat) : Int32 := if chW w G p = 1 then pvW w G p else -nI 9
theorem pf_at {w : Int32} {G : Nat → Nat → Int32} {b : Int64} {p q : Nat} : pfW w G b p 34 q = G 34 q := by
  have h : pfW w (pm_v G 34 q (G 34 q)) b p = pm_v (pfW w G b p) 34 q (G 34 q) := pf_34
  rw [v_id rfl] at h
  rw [h, v_eq]
theorem gs_f {b : Int64} {f k : Nat} (h : f ≠ 20) (h' : f ≠ 46) : ∀ {n j : Nat} {G : Nat → Nat → Int32}, gsN G b j n f k = G f k
  | 0, j, G => rfl
  | n + 1, j, G => by
    simp only [gsN]
    rw [gs_f h h', v_f h, v_f h']
theorem gp_f {b : Int64} {i f k : Nat} (h : f ≠ 42) (h' : f ≠ 43) : ∀ {n j : Nat} {G : Nat → Nat → Int32}, gpN G i b j n f k = G f k
  | 0, j, G => rfl
  | n + 1, j, G => by
    simp only [gpN]
    rw [gp_f h h', v_f h', v_f h]
/-- what a call done leaves as it was -/
theorem pf_f {w : Int32} {G : Nat → Nat → Int32} {b : Int64} {p f k : Nat} (h : f ≠ 20 ∧ f ≠ 21 ∧ f ≠ 27 ∧ f ≠ 31 ∧ f ≠ 41 ∧ f ≠ 42 ∧ f ≠ 43 ∧ f ≠ 44 ∧ f ≠ 45 ∧ f ≠ 46) : pfW w G b p f k = G f k := by
  obtain ⟨h0, h1, h2, h3, h4, h5, h6, h7, h8, h9⟩ := h
  unfold pfW
  split
  · unfold rpF
    split
    · rfl
    · split
      · exact v_f h1
      · exact v_f h3
  · split
    · unfold gvF
      split
      · exact gs_f h0 h9
      · split
        · rfl
        · exact gp_f h5 h6
    · split
      · split
        · unfold tlF tl1
          split
          · rw [mv_f h8, v_f h0, v_f h2, v_f h8, mv_f h7, mv_f h4]
          · rw [v_f h2, v_f h8, mv_f h7, mv_f h4]
        · rfl
      · unfold tbF
        rw [v_f h2, v_f h6, mv_f h5, mv_f h4]
theorem pf_21 {w : Int32} {G : Nat → Nat → Int32} {b : Int64} {p q : Nat} (h : G 21 q ≠ nI 4) : pfW w G b p 21 q = G 21 q := by
  unfold pfW
  split
  · unfold rpF
    split
    · rfl
    · split
      · rename_i h4
        obtain ⟨hft, h1k, hkk⟩ := chd_fit h4
        have hz : G 21 (chd G p 4) = nI 4 := by
          unfold fitc at hft
          simp at hft
          exact hft.1
        exact v_k (fun e => h (by rw [e]; exact hz))
      · exact v_f (by decide)
  · split
    · unfold gvF
      split
      · exact gs_f (by decide) (by decide)
      · split
        · rfl
        · exact gp_f (by decide) (by decide)
    · split
      · split
        · unfold tlF tl1
          split
          · rw [mv_f (by decide), v_f (by decide), v_f (by decide), v_f (by decide), mv_f (by decide), mv_f (by decide)]
          · rw [v_f (by decide), v_f (by decide), mv_f (by decide), mv_f (by decide)]
        · rfl
      · unfold tbF
        rw [v_f (by decide), v_f (by decide), mv_f (by decide), mv_f (by decide)]
theorem wr_b {t : Nat} {e : Nat} {G : Nat → Nat → Int32} (hI : Iv e t G) : ∃ w, w ≤ t ∧ G 20 28 = nI w := hI.2.2.2.2.2.1
theorem h34_of {t e p : Nat} {G : Nat → Nat → Int32} (hI : Iv e t G) (hp : p < 8) (h2 : G 21 p = nI 2) : G 34 p = nI 1 ∨ G 34 p = nI 2 ∨ G 34 p = nI 3 ∨ G 34 p = nI 4 := by
  obtain ⟨h, h', -, -⟩ := hI.1.2.2.2.2.2.2.1 p hp
  exact h.resolve_left (h' h2)
theorem iv_bl {t p : Nat} {G : Nat → Nat → Int32} {w : Int32} (hI : Iv 8 t G) (hp : p < 8) (h1 : G 21 p = nI 1) (hw : w = nI 1 ∨ w = nI 2 ∨ w = nI 3 ∨ w = nI 4) (hc : Cl (pm_v G 34 p w) p) (ht : t < 2 ^ 30) : Iv 8 (t + 1) (blF w G p) := by
  have nd := nd
  obtain ⟨⟨i1, i2, i3, i4, i5, i6, i7, i12⟩, i8, i9, i10, i11, i13⟩ := hI
  unfold blF
  refine ⟨⟨?_, ?_, ?_, ?_, ?_, ?_, ?_, ?_⟩, ?_, ?_, ?_, ?_, ?_⟩
  · intro q hq
    have := i1 q hq
    grind [pm_v]
  · unfold I2 at i2 ⊢
    grind [pm_v]
  · intro q h1q hq hz
    have := i3 q h1q hq (by grind [pm_v])
    obtain ⟨k, hk, e, hne, ha⟩ := this
    refine ⟨k, hk, by grind [pm_v], hne, ?_⟩
    unfold A1 at ha ⊢
    grind [pm_v]
  · intro q hq s hs
    have := i4 q hq s hs
    grind [pm_v]
  · intro q hq he ha s hs1 hs
    have := i5 q hq he (by grind [pm_v]) s hs1 hs
    rw [← this]
    exact due_congr (by grind [pm_v]) (by grind [pm_v]) s
  · intro q hq s hs1 hs h
    have := i6 q hq s hs1 hs (by grind [pm_v])
    grind [pm_v]
  · intro q hq
    have := i7 q hq
    refine ⟨?_, ?_, ?_, ?_⟩ <;> grind [pm_v]
  · intro q hq
    obtain ⟨h, h2, h3⟩ := i12 q hq
    exact ⟨h, by omega, by grind [pm_v]⟩
  · intro q hq
    by_cases e : q = p
    · subst e
      unfold Cl at hc
      obtain ⟨f, hf, e35, ⟨n, hn, e36, hn1⟩, ha, hb⟩ := hc
      refine ⟨f, hf, by grind [pm_v], ⟨n, hn, by grind [pm_v], by grind [pm_v]⟩, ?_, ?_⟩
      · intro h
        have := ha (by grind [pm_v])
        rcases this with h' | ⟨j, hj, h'⟩
        · exact Or.inl (by grind [pm_v])
        · exact Or.inr ⟨j, hj, by grind [pm_v]⟩
      · intro h
        have := hb (by grind [pm_v])
        rcases this with h' | ⟨j, hj, h'⟩
        · exact Or.inl (by grind [pm_v])
        · exact Or.inr ⟨j, hj, by grind [pm_v]⟩
    · obtain ⟨f, hf, e35, ⟨n, hn, e36, hn1⟩, ha, hb⟩ := i8 q hq
      refine ⟨f, hf, by grind [pm_v], ⟨n, hn, by grind [pm_v], by grind [pm_v]⟩, ?_, ?_⟩
      · intro h
        have := ha (by grind [pm_v])
        rcases this with h' | ⟨j, hj, h'⟩
        · exact Or.inl (by grind [pm_v])
        · exact Or.inr ⟨j, hj, by grind [pm_v]⟩
      · intro h
        have := hb (by grind [pm_v])
        rcases this with h' | ⟨j, hj, h'⟩
        · exact Or.inl (by grind [pm_v])
        · exact Or.inr ⟨j, hj, by grind [pm_v]⟩
  · intro k hk
    obtain ⟨v, hv, e⟩ := i9 k hk
    exact ⟨v, hv, by grind [pm_v]⟩
  · intro k hk
    obtain ⟨v, hv, e⟩ := i10 k hk
    exact ⟨v, hv, by grind [pm_v]⟩
  · exact I11_congr2 (fun k => by grind [pm_v]) (by grind [pm_v]) (by grind [pm_v]) i11
  · obtain ⟨⟨w', hw', e28⟩, b, hb, e20, hs, hd⟩ := i13
    refine ⟨⟨w', by omega, by grind [pm_v]⟩, b + 1, by omega, ?_, ?_, ?_⟩
    · rw [v_eq, e20, nI_s]
    · intro q hq h0
      by_cases e : q = p
      · exact ⟨b, by omega, by grind [pm_v]⟩
      · obtain ⟨s, hs1, hs2⟩ := hs q hq (by grind [pm_v])
        exact ⟨s, by omega, by grind [pm_v]⟩
    · intro q r hq hr hne h1' h2'
      have key : ∀ q, q < 8 → G 34 q ≠ nI 0 → G 39 q ≠ nI b := by
        intro q hq h h'
        obtain ⟨s, hs1, hs2⟩ := hs q hq h
        have := nI_inj (hs2.symm.trans h') (by omega) (by omega)
        omega
      by_cases e : q = p
      · have := key r hr (by grind [pm_v])
        grind [pm_v]
      · by_cases e' : r = p
        · have := key q hq (by grind [pm_v])
          grind [pm_v]
        · have := hd q r hq hr hne (by grind [pm_v]) (by grind [pm_v])
          grind [pm_v]
theorem iv_bg {t p : Nat} {G : Nat → Nat → Int32} {w : Int32} {g : Nat → Int64} (hI : Iv 8 t G) (hp : p < 8) (h1 : G 21 p = nI 1) (hw : w = nI 1 ∨ w = nI 2 ∨ w = nI 3 ∨ w = nI 4) (hc : Cl (pm_v G 34 p w) p) (ht : t < 2 ^ 30) : Iv 8 (t + 15) (bgF w G g p) := by
  unfold bgF
  split
  · rename_i hch
    have hw' : w = nI 1 ∨ w = nI 2 ∨ w = nI 3 := by
      rcases hw with h | h | h | h
      · exact Or.inl h
      · exact Or.inr (Or.inl h)
      · exact Or.inr (Or.inr h)
      · subst h
        exact absurd (show (0 : Nat) = 1 from hch) (by decide)
    have hF := iv_pf (b := g p) hI hp hw' hc hch
    split
    · exact iv_mono (iv_com hF hp (by decide)) (by omega)
    · exact iv_mono hF (by omega)
  · exact iv_mono (iv_bl hI hp h1 hw hc ht) (by omega)
section R7
variable {ns d x : Nat} {R : Nat → Nat → Nat → Option (Nat × Nat)} {Z A : Nat → Nat → Nat → Int32} {Y : Nat → Nat → Nat → Int64} {o : Int64} {c g : Nat → Int64} {G : Nat → Nat → Int32}
theorem r73b (hR : RS R) {p t : Nat} (hp : p < 8) (hI : Iv 8 t G) (ht : t + 16 < 2 ^ 30) (h2 : G 21 p = nI 2) (h1 : chF G p = 1) : pE ns (d + 8) 73 [pm_r 20 0, pm_i (nI p), pm_i (nI 1)] (mm x R Z Y o A c G g) (.inl (some (pm_i (pfV G p))), mm x R Z Y o A c (ansF G (g p) p) g) := by
  have h34 := h34_of hI hp h2
  have h34' : G 34 p = nI 1 ∨ G 34 p = nI 2 ∨ G 34 p = nI 3 := by
    rcases h34 with h | h | h | h
    · exact Or.inl h
    · exact Or.inr (Or.inl h)
    · exact Or.inr (Or.inr h)
    · rw [chF_W, h] at h1
      exact absurd (show (0 : Nat) = 1 from h1) (by decide)
  have hcl := Cl_of hI hp
  have hpf : Iv 8 (t + 8) (pfF G (g p) p) := by
    rw [pfF_W]
    refine iv_pf hI hp h34' ?_ (by rw [← chF_W]; exact h1)
    rw [v_id rfl]
    exact hcl
  have hfin : Iv 8 (t + 8) (finF (pfF G (g p) p) p (pfV G p)) := iv_fin hpf hp (Or.inr (by rw [pfF_W, pf_21 (by rw [h2]; decide)]; exact h2))
  have hz : finF (pfF G (g p) p) p (pfV G p) 34 p = nI 0 := v_eq
  have h62 := r62 (ns := ns) (d := d) (x := x) (Z := Z) (Y := Y) (o := o) (A := A) (c := c) (g := g) hR (t := t + 8) hp (s := 2) (by decide) (by decide) hfin (by omega)
  rw [← v_id hz] at h62
  refine en rfl (b73_0 hR (r71 (d := d + 4) hR hp hcl hI.2.2.2.1 hI.2.2.2.2.1 (wr_b hI) (by omega) h34' h1) (t73_5 hR (fun h => absurd h (by decide)) (fun _ => b73_10 hR (r55 hR hp) (t73_16 hR rfl hp (fun h => b73_29 hR h62 (b73_35 hR ?_)) (fun h => ?_)))))
  · rw [v_id hz]
    unfold ansF
    rw [if_pos h]
  · unfold ansF
    rw [if_neg h, v_id hz]
theorem r73a (hR : RS R) {p t : Nat} {w : Int32} (hp : p < 8) (hI : Iv 8 t G) (ht : t + 16 < 2 ^ 30) (h1 : G 21 p = nI 1) (hw : w = nI 1 ∨ w = nI 2 ∨ w = nI 3) (hc : Cl (pm_v G 34 p w) p) (hch : chW w G p = 1) : pE ns (d + 8) 73 [pm_r 20 0, pm_i (nI p), pm_i (nI 0)] (mm x R Z Y o A c (pm_v G 34 p w) g) (.inl (some (pm_i (pvW w G p))), mm x R Z Y o A c (bgF w G g p) g) := by
  have hpf : Iv 8 (t + 8) (pfW w G (g p) p) := iv_pf hI hp hw hc hch
  have nd := nd
  have h0 : G 34 p = nI 0 := (hI.1.2.2.2.2.2.2.1 p hp).2.2.1 (by grind) (by grind)
  have e1 : pfF (pm_v G 34 p w) (g p) p = pm_v (pfW w G (g p) p) 34 p w := by rw [pfF_W, v_eq, pf_34]
  have e2 : pfV (pm_v G 34 p w) p = pvW w G p := by rw [pfV_W, v_eq, pv_34]
  have e3 : chF (pm_v G 34 p w) p = 1 := by rw [chF_W, v_eq, ch_34, hch]
  have e4 : pm_v (pm_v (pfW w G (g p) p) 34 p w) 34 p (nI 0) = pfW w G (g p) p := by rw [v_v, v_id (by rw [pf_at, h0])]
  have hI1 : I1 (pm_v G 34 p w) := hI.1.1
  have hEE := r71 (ns := ns) (d := d + 4) (x := x) (Z := Z) (Y := Y) (o := o) (A := A) (c := c) (g := g) (G := pm_v G 34 p w) (t := t) hR hp hc hI.2.2.2.1 (I11_congr2 (G := G) (fun k => v_f (by decide)) (v_f (by decide)) (v_f (by decide)) hI.2.2.2.2.1) (show ∃ w', w' ≤ t ∧ G 20 28 = nI w' from wr_b hI) (by omega) (by rw [v_eq]; exact hw) e3
  rw [e1, e2] at hEE
  have h62 := r62 (ns := ns) (d := d) (x := x) (Z := Z) (Y := Y) (o := o) (A := A) (c := c) (g := g) hR (t := t + 8) hp (s := 2) (by decide) (by decide) hpf (by omega)
  rw [← e4] at h62
  refine en rfl (b73_0 hR hEE (t73_5 hR (fun _ => t73_16 hR rfl hp (fun h => b73_29 hR h62 (b73_35 hR ?_)) (fun h => ?_)) (fun h => absurd (by decide) h)))
  · rw [e4]
    unfold bgF
    rw [if_pos hch, if_pos h]
  · unfold bgF
    rw [if_pos hch, if_neg h, e4]
theorem r72s (hR : RS R) {t : Nat} (hI : Iv 8 t G) {Q : pm_O × pm_M → Prop} (k1 : sel G = 8 → ∀ u2 u3 u4, pW ns (d + 4) 72 2 [some (pm_r 20 0), some (pm_i (nI 0)), u2, u3, u4] [] (mm x R Z Y o A c G g) Q) (k2 : sel G ≠ 8 → ∀ u3 u4, pW ns (d + 4) 72 87 [some (pm_r 20 0), some (pm_i (nI 1)), some (pm_i (nI (sel G))), u3, u4] [] (mm x R Z Y o A c G g) Q) : ∀ k, k ≤ 8 → ∀ u4, pW ns (d + 4) 72 10 [some (pm_r 20 0), some (pm_i (nI 1)), some (pm_i (cv (pck G k))), some (pm_i (nI k)), u4] [] (mm x R Z Y o A c G g) Q := by
  refine dn (fun k => ∀ u4, pW ns (d + 4) 72 10 [some (pm_r 20 0), some (pm_i (nI 1)), some (pm_i (cv (pck G k))), some (pm_i (nI k)), u4] [] (mm x R Z Y o A c G g) Q) ?_ ?_
  · intro u4
    have hl : pck G 8 ≤ 8 := by
      rcases pck_le G (k := 8) (Nat.le_refl _) with h | ⟨h, -⟩ <;> omega
    refine t72_10 hR (fun _ h => ?_) (fun _ h => ?_) (fun h => absurd (by decide) h)
    · exact k1 ((cv_neg hl).mp h) _ _ _
    · have hs : sel G ≠ 8 := fun e => h ((cv_neg hl).mpr e)
      have e : cv (pck G 8) = nI (sel G) := if_neg hs
      rw [e]
      exact k2 hs _ _
  · intro k hk ih u4
    have hl := pck_le G (k := k) (by omega)
    have hl8 : pck G k ≤ 8 := by rcases hl with h | ⟨h, -⟩ <;> omega
    have hno : ¬ (can G k = true ∧ (pck G k = 8 ∨ ¬ G 39 (pck G k) ≤ G 39 k)) → ∀ u4, pW ns (d + 4) 72 10 [some (pm_r 20 0), some (pm_i (nI 1)), some (pm_i (cv (pck G k))), some (pm_i (nI k + nI 1)), u4] [] (mm x R Z Y o A c G g) Q := by
      intro h u4
      have := ih u4
      simp only [pck, if_neg h] at this
      rw [nI_s]
      exact this
    have hyes : (can G k = true ∧ (pck G k = 8 ∨ ¬ G 39 (pck G k) ≤ G 39 k)) → ∀ u4, pW ns (d + 4) 72 10 [some (pm_r 20 0), some (pm_i (nI 1)), some (pm_i (nI k)), some (pm_i (nI k + nI 1)), u4] [] (mm x R Z Y o A c G g) Q := by
      intro h u4
      have := ih u4
      simp only [pck, if_pos h] at this
      rw [nI_s]
      rw [show cv k = nI k from if_neg (by omega)] at this
      exact this
    refine t72_10 hR (fun h => absurd h (nI_ge hk (by decide))) (fun h => absurd h (nI_ge hk (by decide))) (fun _ => b72_16 hR rfl hk (fun h2 => ?_) (fun h2 => b72_38 hR (fun _ => b72_67 hR (hno (fun e => ?_) _)) (fun h => absurd (by decide) h)))
    · refine b72_26 hR (r66 hR hk hI.1.1 hI.1.2.2.1 (Cl_of hI hk) hI.2.2.2.1 (h34_of hI hk h2)) ?_
      have hc2 := chF_le (G := G) (p := k)
      refine t72_31 hR (fun h => hno (fun e => ?_) _) (fun h h' => ?_) (fun h h' => ?_)
      · rw [← nI_0, nI_leI (by omega) (by decide)] at h
        have := e.1
        unfold can at this
        simp at this
        omega
      · rw [← nI_0, nI_leI (by omega) (by decide)] at h
        have hcan : can G k = true := by unfold can; simp [h2]; omega
        exact hyes ⟨hcan, Or.inl ((cv_neg hl8).mp h')⟩ _
      · rw [← nI_0, nI_leI (by omega) (by decide)] at h
        have hcan : can G k = true := by unfold can; simp [h2]; omega
        have h8 : pck G k ≠ 8 := fun e => h' ((cv_neg hl8).mpr e)
        have e : cv (pck G k) = nI (pck G k) := if_neg h8
        rw [e]
        refine b72_50 hR rfl hk rfl (by omega) (fun h3 => b72_67 hR ?_) (fun h3 => b72_65 hR (hyes ⟨hcan, Or.inr h3⟩ _))
        have := hno (fun e => e.2.elim h8 (fun h4 => h4 h3)) (some (pm_i (nI 1)))
        rwa [e] at this
    · have := e.1
      unfold can at this
      simp at this
      exact h2 this.1
theorem r72 (hR : RS R) {t : Nat} (hI : Iv 8 t G) (ht : t + 600 < 2 ^ 30) : pE ns (d + 9) 72 [pm_r 20 0] (mm x R Z Y o A c G g) (.inl none, mm x R Z Y o A c (settleF G g) g) := by
  have nd := nd
  have key : ∀ n t (G : Nat → Nat → Int32), Iv 8 t G → nb G ≤ n → t + 56 * n + 80 < 2 ^ 30 → ∀ u2 u3 u4, pW ns (d + 8) 72 2 [some (pm_r 20 0), some (pm_i (nI 1)), u2, u3, u4] [] (mm x R Z Y o A c G g) (fun r' => r' = (.inl none, mm x R Z Y o A c (stN g G n) g)) := by
    intro n
    induction n with
    | zero =>
      intro t G hI hn ht u2 u3 u4
      have hs : sel G = 8 := (iv_stN (g := g) hI hn).2
      refine t72_2 hR (fun h => absurd h (by decide)) (fun _ => ?_)
      rw [show (-nI 1) = cv (pck G 0) from rfl]
      refine r72s (d := d + 4) hR hI (fun _ u2 u3 u4 => t72_2 hR (fun _ => ?_) (fun h => absurd (by decide) h)) (fun h => absurd hs h) 0 (by decide) _
      rfl
    | succ n ih =>
      intro t G hI hn ht u2 u3 u4
      refine t72_2 hR (fun h => absurd h (by decide)) (fun _ => ?_)
      rw [show (-nI 1) = cv (pck G 0) from rfl]
      refine r72s (d := d + 4) hR hI (fun hs u2 u3 u4 => t72_2 hR (fun _ => ?_) (fun h => absurd (by decide) h)) (fun hs u3 u4 => ?_) 0 (by decide) _
      · simp only [stN, if_pos hs]
      · simp only [stN, if_neg hs]
        obtain ⟨hp, h2, h0⟩ := sel_ok hs
        obtain ⟨hI', hn'⟩ := iv_step (g := g) hI hs
        have hk := ih (t + 56) (stepF G g) hI' (by omega) (by omega)
        have hle := chF_le (G := G) (p := sel G)
        refine b72_87 hR (r66 (d := d + 4) hR hp hI.1.1 hI.1.2.2.1 (Cl_of hI hp) hI.2.2.2.1 (h34_of hI hp h2)) (t72_92 hR (fun h => ?_) (fun h h' => absurd h' (by decide)) (fun h _ => ?_))
        · have hc : chF G (sel G) = 2 := nI_inj h (by omega) (by decide)
          have e : stepF G g = cpF G (G 23 (sel G)) 5 := if_pos hc
          rw [e] at hk ⊢
          have h63 := r63 (ns := ns) (d := d) (x := x) (Z := Z) (Y := Y) (o := o) (A := A) (c := c) (g := g) (q := G 23 (sel G)) hR (s := 5) (by decide) (by decide) hI (by omega)
          exact b72_96 hR rfl hp h63 (b72_107 hR (hk _ _ _))
        · have hc : ¬ chF G (sel G) = 2 := fun e => h (by rw [e])
          have e : stepF G g = ansF G (g (sel G)) (sel G) := if_neg hc
          rw [e] at hk ⊢
          have h73 := r73b (ns := ns) (d := d) (x := x) (Z := Z) (Y := Y) (o := o) (A := A) (c := c) (g := g) hR hp hI (by omega) h2 (by omega)
          exact b72_114 hR h73 (b72_120 hR (hk _ _ _))
  exact en rfl (b72_0 hR (key 8 t G hI (ct_le _ 8) (by omega) _ _ _))
/-- what a call that begins leads to -/
def beF (w : Int32) (G : Nat → Nat → Int32) (g : Nat → Int64) (p : Nat) : Nat → Nat → Int32 := settleF (bgF w G g p) g
theorem r74 (hR : RS R) {p t : Nat} {w : Int32} (hp : p < 8) (hI : Iv 8 t G) (ht : t + 700 < 2 ^ 30) (h1 : G 21 p = nI 1) (hw : w = nI 1 ∨ w = nI 2 ∨ w = nI 3 ∨ w = nI 4) (hc : Cl (pm_v G 34 p w) p) : pE ns (d + 10) 74 [pm_r 20 0, pm_i (nI p), pm_i w] (mm x R Z Y o A c G g) (.inl (some (pm_i (bgV w G p))), mm x R Z Y o A c (beF w G g p) g) := by
  have hb := iv_bg (g := g) hI hp h1 hw hc (by omega)
  have hS := r72 (ns := ns) (d := d) (x := x) (Z := Z) (Y := Y) (o := o) (A := A) (c := c) (g := g) hR hb (by omega)
  have e3 : chF (pm_v G 34 p w) p = chW w G p := by rw [chF_W, v_eq, ch_34]
  have hEE := r66 (ns := ns) (d := d + 5) (x := x) (Z := Z) (Y := Y) (o := o) (A := A) (c := c) (g := g) (G := pm_v G 34 p w) hR hp hI.1.1 hI.1.2.2.1 hc hI.2.2.2.1 (by rw [v_eq]; exact hw)
  rw [e3] at hEE
  have hle : chW w G p ≤ 2 := by rw [← e3]; exact chF_le
  refine en rfl (b74_0 hR rfl hp hEE (t74_15 hR (fun h => ?_) (fun h => ?_)))
  · have hch : chW w G p = 1 := nI_inj h (by omega) (by decide)
    have hw' : w = nI 1 ∨ w = nI 2 ∨ w = nI 3 := by
      rcases hw with h | h | h | h
      · exact Or.inl h
      · exact Or.inr (Or.inl h)
      · exact Or.inr (Or.inr h)
      · subst h
        exact absurd (show (0 : Nat) = 1 from hch) (by decide)
    refine b74_19 hR (r73a (d := d + 1) hR hp hI (by omega) h1 hw' hc hch) (b74_25 hR hS (b74_68 hR ?_))
    unfold bgV
    rw [if_pos hch]
    rfl
  · have hch : ¬ chW w G p = 1 := fun e => h (by rw [e])
    have e : bgF w G g p = blF w G p := if_neg hch
    rw [e] at hS
    refine b74_29 hR rfl hp hS (b74_68 hR ?_)
    unfold bgV beF
    rw [if_neg hch, e]
end R7
