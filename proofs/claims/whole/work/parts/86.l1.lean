/-! @85.q4 71.b9@ the law's small methods beside the reference's: what both do (printed by wip/whole/gen/mk86.py) -/
/-- what holds between two calls, of the reference's memory -/
def Gd (t : Nat) (G : Nat → Nat → Int32) : Prop := Iv 8 t G ∧ Tk G ∧ St G ∧ sel G = 8 ∧ G 20 0 = nI 0
/-- the same, whatever was thrown last, and the class beside it -/
def J (t : Nat) (A : Nat → Nat → Nat → Int32) (c : Nat → Int64) (G : Nat → Nat → Int32) (g : Nat → Int64) : Prop := Gd t (thr G (nI 0)) ∧ Rel A c (thr G (nI 0)) g
theorem gd_mono {t t' : Nat} {G : Nat → Nat → Int32} (h : Gd t G) (ht : t ≤ t') : Gd t' G := ⟨iv_mono h.1 ht, h.2⟩
theorem gd_set {t : Nat} {H K : Nat → Nat → Int32} {g : Nat → Int64} (hI : Iv 8 t K) (hz : Tz H K) (hs : Sz H K) (hk : Tk H) (hst : St H) (h0 : H 20 0 = nI 0) : Gd (t + 448) (settleF K g) := by
  obtain ⟨h1, h2⟩ := iv_settle (g := g) hI
  have hz' := tz_settle (g := g) hI
  exact ⟨h1, hz'.2 (hz.2 hk), sz_settle (hs hst), h2, hz'.1.trans (hz.1.trans h0)⟩
theorem gd_st {t s : Nat} {H K : Nat → Nat → Int32} {g : Nat → Int64} (h : Gd t H) (hI : Iv 8 s K) (hs' : s ≤ t + 500) (hz : Tz H K) (hs : Sz H K) : Gd (t + 1000) (settleF K g) := gd_mono (gd_set hI hz hs h.2.1 h.2.2.1 h.2.2.2.2) (by omega)
theorem gd_be {t p : Nat} {H K : Nat → Nat → Int32} {g : Nat → Int64} {w : Int32} (h : Gd t H) (hI : Iv 8 t K) (hz : Tz H K) (hs : Sz H K) (hp : p < 8) (h1 : K 21 p = nI 1) (hw : w = nI 1 ∨ w = nI 2 ∨ w = nI 3 ∨ w = nI 4) (hc : Cl (pm_v K 34 p w) p) (ht : t < 2 ^ 30) : Gd (t + 1000) (beF w K g p) := gd_mono (gd_set (iv_bg hI hp h1 hw hc ht) (Tz.tr hz (tz_bg hI hp hw hc)) (Sz.tr hs sz_bg) h.2.1 h.2.2.1 h.2.2.2.2) (by omega)
theorem j_of {t : Nat} {A : Nat → Nat → Nat → Int32} {c : Nat → Int64} {G : Nat → Nat → Int32} {g : Nat → Int64} (h : Gd t G) (hr : Rel A c G g) : J t A c G g := by
  unfold J thr
  rw [v_id h.2.2.2.2]
  exact ⟨h, hr⟩
theorem j_thr {t : Nat} {A : Nat → Nat → Nat → Int32} {c : Nat → Int64} {G : Nat → Nat → Int32} {g : Nat → Int64} {v : Int32} (h : J t A c G g) : J (t + 1000) A c (thr G v) g := by
  unfold J thr at h ⊢
  rw [v_v]
  exact ⟨gd_mono h.1 (by omega), h.2⟩
theorem rdy_h {G : Nat → Nat → Int32} {p : Int32} {v : Int32} : rdy (thr G v) p = rdy G p := rfl
theorem gd_if {t : Nat} {H K : Nat → Nat → Int32} {q : Prop} [Decidable q] (h : Gd t H) (hK : ¬ q → Gd (t + 1000) K) : Gd (t + 1000) (if q then H else K) := by
  split
  · exact gd_mono h (by omega)
  · rename_i hq
    exact hK hq
theorem gd_if2 {t : Nat} {H K : Nat → Nat → Int32} {q : Prop} [Decidable q] (h : Gd t H) (hK : q → Gd (t + 1000) K) : Gd (t + 1000) (if q then K else H) := by
  split
  · rename_i hq
    exact hK hq
  · exact gd_mono h (by omega)
def OpJ (ns x : Nat) (R : Nat → Nat → Nat → Option (Nat × Nat)) (Z : Nat → Nat → Nat → Int32) (Y : Nat → Nat → Nat → Int64) (o : Int64) (A : Nat → Nat → Nat → Int32) (c : Nat → Int64) (G : Nat → Nat → Int32) (g : Nat → Int64) (t mw : Nat) (aw : List pm_V) (mr : Nat) (ar : List pm_V) : Prop := ∃ (K V : Int32) (x' : Nat) (o' : Int64) (A' : Nat → Nat → Nat → Int32) (c' : Nat → Int64) (G' : Nat → Nat → Int32) (g' : Nat → Int64), pE ns 12 mw aw (mm x R Z Y o A c G g) (.inl (some (pm_i K)), mm x' R Z Y o' A' c' G g) ∧ pE ns 12 mr ar (mm x' R Z Y o' A' c' G g) (.inl (some (pm_i V)), mm x' R Z Y o' A' c' G' g') ∧ G' 20 0 = K ∧ (K = 0 → o' = V.toInt64) ∧ J (t + 1000) A' c' G' g' ∧ x' ≤ x + 1
/-- a call that goes through on both sides -/
theorem oj_ok {ns x : Nat} {R : Nat → Nat → Nat → Option (Nat × Nat)} {Z : Nat → Nat → Nat → Int32} {Y : Nat → Nat → Nat → Int64} {o : Int64} {A : Nat → Nat → Nat → Int32} {c : Nat → Int64} {G : Nat → Nat → Int32} {g : Nat → Int64} {t mw : Nat} {aw : List pm_V} {mr : Nat} {ar : List pm_V} {V : Int32} {A' : Nat → Nat → Nat → Int32} {c' : Nat → Int64} {G' : Nat → Nat → Int32} {g' : Nat → Int64} (h1 : pE ns 12 mw aw (mm x R Z Y o A c G g) (.inl (some (pm_i (nI 0))), mm x R Z Y V.toInt64 A' c' G g)) (h2 : pE ns 12 mr ar (mm x R Z Y V.toInt64 A' c' G g) (.inl (some (pm_i V)), mm x R Z Y V.toInt64 A' c' G' g')) (hg : Gd (t + 1000) G') (hr : Rel A' c' G' g') : OpJ ns x R Z Y o A c G g t mw aw mr ar := ⟨nI 0, V, x, V.toInt64, A', c', G', g', h1, h2, hg.2.2.2.2, fun _ => rfl, j_of hg hr, by omega⟩
/-- a call that throws on both sides -/
theorem oj_no {ns x : Nat} {R : Nat → Nat → Nat → Option (Nat × Nat)} {Z : Nat → Nat → Nat → Int32} {Y : Nat → Nat → Nat → Int64} {o : Int64} {A : Nat → Nat → Nat → Int32} {c : Nat → Int64} {G : Nat → Nat → Int32} {g : Nat → Int64} {t mw : Nat} {aw : List pm_V} {mr : Nat} {ar : List pm_V} {K V : Int32} (hJ : J t A c G g) (hK : K ≠ 0) (h1 : pE ns 12 mw aw (mm x R Z Y o A c G g) (.inl (some (pm_i K)), mm (x + 1) R Z Y o A c G g)) (h2 : pE ns 12 mr ar (mm (x + 1) R Z Y o A c G g) (.inl (some (pm_i V)), mm (x + 1) R Z Y o A c (thr G K) g)) : OpJ ns x R Z Y o A c G g t mw aw mr ar := ⟨K, V, x + 1, o, A, c, thr G K, g, h1, h2, v_eq, fun e => absurd e hK, j_thr hJ, Nat.le_refl _⟩
section L1
variable {ns x t : Nat} {R : Nat → Nat → Nat → Option (Nat × Nat)} {Z A : Nat → Nat → Nat → Int32} {Y : Nat → Nat → Nat → Int64} {o : Int64} {c g : Nat → Int64} {G : Nat → Nat → Int32} {x2 : Nat} {o2 : Int64} {A2 : Nat → Nat → Nat → Int32} {c2 : Nat → Int64} {G2 : Nat → Nat → Int32} {g2 : Nat → Int64}

theorem w132 (hR : RS R) {p : Int32} {y : Int32} (hE : pE ns 11 2 [pm_r 0 0, pm_i p] (mm x R Z Y o A c G g) (.inl (some (pm_i y)), mm x2 R Z Y o2 A2 c2 G2 g2)) : pE ns 12 132 [pm_r 0 0, pm_i p, pm_r 60 0] (mm x R Z Y o A c G g) (.inl (some (pm_i (nI 0))), mm x2 R Z Y y.toInt64 A2 c2 G2 g2) := en (d := 11) rfl (b132_0 hR hE (b132_7 hR (j1 := 0) rfl (by decide) rfl))
theorem w132x0 (hR : RS R) {p : Int32} (hE : pE ns 11 2 [pm_r 0 0, pm_i p] (mm x R Z Y o A c G g) (.inr 0, mm x2 R Z Y o2 A2 c2 G2 g2)) : pE ns 12 132 [pm_r 0 0, pm_i p, pm_r 60 0] (mm x R Z Y o A c G g) (.inl (some (pm_i (nI 1))), mm x2 R Z Y o2 A2 c2 G2 g2) := en (d := 11) rfl (b132_0h0 hR hE (b132_13 hR rfl))
theorem w133 (hR : RS R) {p a : Int32} {y : Int32} (hE : pE ns 11 3 [pm_r 0 0, pm_i p, pm_i a] (mm x R Z Y o A c G g) (.inl (some (pm_i y)), mm x2 R Z Y o2 A2 c2 G2 g2)) : pE ns 12 133 [pm_r 0 0, pm_i p, pm_i a, pm_r 60 0] (mm x R Z Y o A c G g) (.inl (some (pm_i (nI 0))), mm x2 R Z Y y.toInt64 A2 c2 G2 g2) := en (d := 11) rfl (b133_0 hR hE (b133_8 hR (j1 := 0) rfl (by decide) rfl))
theorem w133x0 (hR : RS R) {p a : Int32} (hE : pE ns 11 3 [pm_r 0 0, pm_i p, pm_i a] (mm x R Z Y o A c G g) (.inr 0, mm x2 R Z Y o2 A2 c2 G2 g2)) : pE ns 12 133 [pm_r 0 0, pm_i p, pm_i a, pm_r 60 0] (mm x R Z Y o A c G g) (.inl (some (pm_i (nI 1))), mm x2 R Z Y o2 A2 c2 G2 g2) := en (d := 11) rfl (b133_0h0 hR hE (b133_15 hR rfl))
theorem w134 (hR : RS R) {p : Int32} {y : Int32} (hE : pE ns 11 4 [pm_r 0 0, pm_i p] (mm x R Z Y o A c G g) (.inl (some (pm_i y)), mm x2 R Z Y o2 A2 c2 G2 g2)) : pE ns 12 134 [pm_r 0 0, pm_i p, pm_r 60 0] (mm x R Z Y o A c G g) (.inl (some (pm_i (nI 0))), mm x2 R Z Y y.toInt64 A2 c2 G2 g2) := en (d := 11) rfl (b134_0 hR hE (b134_7 hR (j1 := 0) rfl (by decide) rfl))
theorem w134x0 (hR : RS R) {p : Int32} (hE : pE ns 11 4 [pm_r 0 0, pm_i p] (mm x R Z Y o A c G g) (.inr 0, mm x2 R Z Y o2 A2 c2 G2 g2)) : pE ns 12 134 [pm_r 0 0, pm_i p, pm_r 60 0] (mm x R Z Y o A c G g) (.inl (some (pm_i (nI 1))), mm x2 R Z Y o2 A2 c2 G2 g2) := en (d := 11) rfl (b134_0h0 hR hE (b134_13 hR rfl))
theorem w135 (hR : RS R) {p a b : Int32} {y : Int32} (hE : pE ns 11 5 [pm_r 0 0, pm_i p, pm_i a, pm_i b] (mm x R Z Y o A c G g) (.inl (some (pm_i y)), mm x2 R Z Y o2 A2 c2 G2 g2)) : pE ns 12 135 [pm_r 0 0, pm_i p, pm_i a, pm_i b, pm_r 60 0] (mm x R Z Y o A c G g) (.inl (some (pm_i (nI 0))), mm x2 R Z Y y.toInt64 A2 c2 G2 g2) := en (d := 11) rfl (b135_0 hR hE (b135_10 hR (j1 := 0) rfl (by decide) rfl))
theorem w135x0 (hR : RS R) {p a b : Int32} (hE : pE ns 11 5 [pm_r 0 0, pm_i p, pm_i a, pm_i b] (mm x R Z Y o A c G g) (.inr 0, mm x2 R Z Y o2 A2 c2 G2 g2)) : pE ns 12 135 [pm_r 0 0, pm_i p, pm_i a, pm_i b, pm_r 60 0] (mm x R Z Y o A c G g) (.inl (some (pm_i (nI 1))), mm x2 R Z Y o2 A2 c2 G2 g2) := en (d := 11) rfl (b135_0h0 hR hE (b135_17 hR rfl))
theorem w136 (hR : RS R) {p a : Int32} {y : Int32} (hE : pE ns 11 6 [pm_r 0 0, pm_i p, pm_i a] (mm x R Z Y o A c G g) (.inl (some (pm_i y)), mm x2 R Z Y o2 A2 c2 G2 g2)) : pE ns 12 136 [pm_r 0 0, pm_i p, pm_i a, pm_r 60 0] (mm x R Z Y o A c G g) (.inl (some (pm_i (nI 0))), mm x2 R Z Y y.toInt64 A2 c2 G2 g2) := en (d := 11) rfl (b136_0 hR hE (b136_8 hR (j1 := 0) rfl (by decide) rfl))
theorem w136x0 (hR : RS R) {p a : Int32} (hE : pE ns 11 6 [pm_r 0 0, pm_i p, pm_i a] (mm x R Z Y o A c G g) (.inr 0, mm x2 R Z Y o2 A2 c2 G2 g2)) : pE ns 12 136 [pm_r 0 0, pm_i p, pm_i a, pm_r 60 0] (mm x R Z Y o A c G g) (.inl (some (pm_i (nI 1))), mm x2 R Z Y o2 A2 c2 G2 g2) := en (d := 11) rfl (b136_0h0 hR hE (b136_15 hR rfl))
theorem w137 (hR : RS R) {p a b : Int32} {y : Int32} (hE : pE ns 11 7 [pm_r 0 0, pm_i p, pm_i a, pm_i b] (mm x R Z Y o A c G g) (.inl (some (pm_i y)), mm x2 R Z Y o2 A2 c2 G2 g2)) : pE ns 12 137 [pm_r 0 0, pm_i p, pm_i a, pm_i b, pm_r 60 0] (mm x R Z Y o A c G g) (.inl (some (pm_i (nI 0))), mm x2 R Z Y y.toInt64 A2 c2 G2 g2) := en (d := 11) rfl (b137_0 hR hE (b137_10 hR (j1 := 0) rfl (by decide) rfl))
theorem w137x1 (hR : RS R) {p a b : Int32} (hE : pE ns 11 7 [pm_r 0 0, pm_i p, pm_i a, pm_i b] (mm x R Z Y o A c G g) (.inr 1, mm x2 R Z Y o2 A2 c2 G2 g2)) : pE ns 12 137 [pm_r 0 0, pm_i p, pm_i a, pm_i b, pm_r 60 0] (mm x R Z Y o A c G g) (.inl (some (pm_i (nI 1))), mm x2 R Z Y o2 A2 c2 G2 g2) := en (d := 11) rfl (b137_0h1 hR hE (b137_17 hR rfl))
theorem w137x0 (hR : RS R) {p a b : Int32} (hE : pE ns 11 7 [pm_r 0 0, pm_i p, pm_i a, pm_i b] (mm x R Z Y o A c G g) (.inr 0, mm x2 R Z Y o2 A2 c2 G2 g2)) : pE ns 12 137 [pm_r 0 0, pm_i p, pm_i a, pm_i b, pm_r 60 0] (mm x R Z Y o A c G g) (.inl (some (pm_i (nI 2))), mm x2 R Z Y o2 A2 c2 G2 g2) := en (d := 11) rfl (b137_0h0 hR hE (b137_21 hR rfl))
theorem w138 (hR : RS R) {p a b : Int32} {w : Int64} {y : Int32} (hE : pE ns 11 8 [pm_r 0 0, pm_i p, pm_i a, pm_l w, pm_i b] (mm x R Z Y o A c G g) (.inl (some (pm_i y)), mm x2 R Z Y o2 A2 c2 G2 g2)) : pE ns 12 138 [pm_r 0 0, pm_i p, pm_i a, pm_l w, pm_i b, pm_r 60 0] (mm x R Z Y o A c G g) (.inl (some (pm_i (nI 0))), mm x2 R Z Y y.toInt64 A2 c2 G2 g2) := en (d := 11) rfl (b138_0 hR hE (b138_12 hR (j1 := 0) rfl (by decide) rfl))
theorem w138x1 (hR : RS R) {p a b : Int32} {w : Int64} (hE : pE ns 11 8 [pm_r 0 0, pm_i p, pm_i a, pm_l w, pm_i b] (mm x R Z Y o A c G g) (.inr 1, mm x2 R Z Y o2 A2 c2 G2 g2)) : pE ns 12 138 [pm_r 0 0, pm_i p, pm_i a, pm_l w, pm_i b, pm_r 60 0] (mm x R Z Y o A c G g) (.inl (some (pm_i (nI 1))), mm x2 R Z Y o2 A2 c2 G2 g2) := en (d := 11) rfl (b138_0h1 hR hE (b138_19 hR rfl))
theorem w138x0 (hR : RS R) {p a b : Int32} {w : Int64} (hE : pE ns 11 8 [pm_r 0 0, pm_i p, pm_i a, pm_l w, pm_i b] (mm x R Z Y o A c G g) (.inr 0, mm x2 R Z Y o2 A2 c2 G2 g2)) : pE ns 12 138 [pm_r 0 0, pm_i p, pm_i a, pm_l w, pm_i b, pm_r 60 0] (mm x R Z Y o A c G g) (.inl (some (pm_i (nI 2))), mm x2 R Z Y o2 A2 c2 G2 g2) := en (d := 11) rfl (b138_0h0 hR hE (b138_23 hR rfl))
theorem w139 (hR : RS R) {p a : Int32} {y : Int32} (hE : pE ns 11 9 [pm_r 0 0, pm_i p, pm_i a] (mm x R Z Y o A c G g) (.inl (some (pm_i y)), mm x2 R Z Y o2 A2 c2 G2 g2)) : pE ns 12 139 [pm_r 0 0, pm_i p, pm_i a, pm_r 60 0] (mm x R Z Y o A c G g) (.inl (some (pm_i (nI 0))), mm x2 R Z Y y.toInt64 A2 c2 G2 g2) := en (d := 11) rfl (b139_0 hR hE (b139_8 hR (j1 := 0) rfl (by decide) rfl))
theorem w139x0 (hR : RS R) {p a : Int32} (hE : pE ns 11 9 [pm_r 0 0, pm_i p, pm_i a] (mm x R Z Y o A c G g) (.inr 0, mm x2 R Z Y o2 A2 c2 G2 g2)) : pE ns 12 139 [pm_r 0 0, pm_i p, pm_i a, pm_r 60 0] (mm x R Z Y o A c G g) (.inl (some (pm_i (nI 1))), mm x2 R Z Y o2 A2 c2 G2 g2) := en (d := 11) rfl (b139_0h0 hR hE (b139_15 hR rfl))
theorem w140 (hR : RS R) {p : Int32} {y : Int32} (hE : pE ns 11 10 [pm_r 0 0, pm_i p] (mm x R Z Y o A c G g) (.inl (some (pm_i y)), mm x2 R Z Y o2 A2 c2 G2 g2)) : pE ns 12 140 [pm_r 0 0, pm_i p, pm_r 60 0] (mm x R Z Y o A c G g) (.inl (some (pm_i (nI 0))), mm x2 R Z Y y.toInt64 A2 c2 G2 g2) := en (d := 11) rfl (b140_0 hR hE (b140_7 hR (j1 := 0) rfl (by decide) rfl))
theorem w140x0 (hR : RS R) {p : Int32} (hE : pE ns 11 10 [pm_r 0 0, pm_i p] (mm x R Z Y o A c G g) (.inr 0, mm x2 R Z Y o2 A2 c2 G2 g2)) : pE ns 12 140 [pm_r 0 0, pm_i p, pm_r 60 0] (mm x R Z Y o A c G g) (.inl (some (pm_i (nI 1))), mm x2 R Z Y o2 A2 c2 G2 g2) := en (d := 11) rfl (b140_0h0 hR hE (b140_13 hR rfl))
theorem w141 (hR : RS R) {p a b : Int32} {y : Int32} (hE : pE ns 11 11 [pm_r 0 0, pm_i p, pm_i a, pm_i b] (mm x R Z Y o A c G g) (.inl (some (pm_i y)), mm x2 R Z Y o2 A2 c2 G2 g2)) : pE ns 12 141 [pm_r 0 0, pm_i p, pm_i a, pm_i b, pm_r 60 0] (mm x R Z Y o A c G g) (.inl (some (pm_i (nI 0))), mm x2 R Z Y y.toInt64 A2 c2 G2 g2) := en (d := 11) rfl (b141_0 hR hE (b141_10 hR (j1 := 0) rfl (by decide) rfl))
theorem w141x1 (hR : RS R) {p a b : Int32} (hE : pE ns 11 11 [pm_r 0 0, pm_i p, pm_i a, pm_i b] (mm x R Z Y o A c G g) (.inr 1, mm x2 R Z Y o2 A2 c2 G2 g2)) : pE ns 12 141 [pm_r 0 0, pm_i p, pm_i a, pm_i b, pm_r 60 0] (mm x R Z Y o A c G g) (.inl (some (pm_i (nI 1))), mm x2 R Z Y o2 A2 c2 G2 g2) := en (d := 11) rfl (b141_0h1 hR hE (b141_17 hR rfl))
theorem w141x0 (hR : RS R) {p a b : Int32} (hE : pE ns 11 11 [pm_r 0 0, pm_i p, pm_i a, pm_i b] (mm x R Z Y o A c G g) (.inr 0, mm x2 R Z Y o2 A2 c2 G2 g2)) : pE ns 12 141 [pm_r 0 0, pm_i p, pm_i a, pm_i b, pm_r 60 0] (mm x R Z Y o A c G g) (.inl (some (pm_i (nI 2))), mm x2 R Z Y o2 A2 c2 G2 g2) := en (d := 11) rfl (b141_0h0 hR hE (b141_21 hR rfl))
theorem w142 (hR : RS R) {p a b : Int32} {y : Int32} (hE : pE ns 11 12 [pm_r 0 0, pm_i p, pm_i a, pm_i b] (mm x R Z Y o A c G g) (.inl (some (pm_i y)), mm x2 R Z Y o2 A2 c2 G2 g2)) : pE ns 12 142 [pm_r 0 0, pm_i p, pm_i a, pm_i b, pm_r 60 0] (mm x R Z Y o A c G g) (.inl (some (pm_i (nI 0))), mm x2 R Z Y y.toInt64 A2 c2 G2 g2) := en (d := 11) rfl (b142_0 hR hE (b142_10 hR (j1 := 0) rfl (by decide) rfl))
theorem w142x1 (hR : RS R) {p a b : Int32} (hE : pE ns 11 12 [pm_r 0 0, pm_i p, pm_i a, pm_i b] (mm x R Z Y o A c G g) (.inr 1, mm x2 R Z Y o2 A2 c2 G2 g2)) : pE ns 12 142 [pm_r 0 0, pm_i p, pm_i a, pm_i b, pm_r 60 0] (mm x R Z Y o A c G g) (.inl (some (pm_i (nI 1))), mm x2 R Z Y o2 A2 c2 G2 g2) := en (d := 11) rfl (b142_0h1 hR hE (b142_17 hR rfl))
theorem w142x0 (hR : RS R) {p a b : Int32} (hE : pE ns 11 12 [pm_r 0 0, pm_i p, pm_i a, pm_i b] (mm x R Z Y o A c G g) (.inr 0, mm x2 R Z Y o2 A2 c2 G2 g2)) : pE ns 12 142 [pm_r 0 0, pm_i p, pm_i a, pm_i b, pm_r 60 0] (mm x R Z Y o A c G g) (.inl (some (pm_i (nI 2))), mm x2 R Z Y o2 A2 c2 G2 g2) := en (d := 11) rfl (b142_0h0 hR hE (b142_21 hR rfl))
theorem w143 (hR : RS R) {p a : Int32} {y : Int32} (hE : pE ns 11 13 [pm_r 0 0, pm_i p, pm_i a] (mm x R Z Y o A c G g) (.inl (some (pm_i y)), mm x2 R Z Y o2 A2 c2 G2 g2)) : pE ns 12 143 [pm_r 0 0, pm_i p, pm_i a, pm_r 60 0] (mm x R Z Y o A c G g) (.inl (some (pm_i (nI 0))), mm x2 R Z Y y.toInt64 A2 c2 G2 g2) := en (d := 11) rfl (b143_0 hR hE (b143_8 hR (j1 := 0) rfl (by decide) rfl))
theorem w143x0 (hR : RS R) {p a : Int32} (hE : pE ns 11 13 [pm_r 0 0, pm_i p, pm_i a] (mm x R Z Y o A c G g) (.inr 0, mm x2 R Z Y o2 A2 c2 G2 g2)) : pE ns 12 143 [pm_r 0 0, pm_i p, pm_i a, pm_r 60 0] (mm x R Z Y o A c G g) (.inl (some (pm_i (nI 1))), mm x2 R Z Y o2 A2 c2 G2 g2) := en (d := 11) rfl (b143_0h0 hR hE (b143_15 hR rfl))
theorem w144 (hR : RS R) {p a b : Int32} {y : Int32} (hE : pE ns 11 14 [pm_r 0 0, pm_i p, pm_i a, pm_i b] (mm x R Z Y o A c G g) (.inl (some (pm_i y)), mm x2 R Z Y o2 A2 c2 G2 g2)) : pE ns 12 144 [pm_r 0 0, pm_i p, pm_i a, pm_i b, pm_r 60 0] (mm x R Z Y o A c G g) (.inl (some (pm_i (nI 0))), mm x2 R Z Y y.toInt64 A2 c2 G2 g2) := en (d := 11) rfl (b144_0 hR hE (b144_10 hR (j1 := 0) rfl (by decide) rfl))
theorem w144x0 (hR : RS R) {p a b : Int32} (hE : pE ns 11 14 [pm_r 0 0, pm_i p, pm_i a, pm_i b] (mm x R Z Y o A c G g) (.inr 0, mm x2 R Z Y o2 A2 c2 G2 g2)) : pE ns 12 144 [pm_r 0 0, pm_i p, pm_i a, pm_i b, pm_r 60 0] (mm x R Z Y o A c G g) (.inl (some (pm_i (nI 1))), mm x2 R Z Y o2 A2 c2 G2 g2) := en (d := 11) rfl (b144_0h0 hR hE (b144_17 hR rfl))
theorem w145 (hR : RS R) {p a : Int32} {y : Int32} (hE : pE ns 11 15 [pm_r 0 0, pm_i p, pm_i a] (mm x R Z Y o A c G g) (.inl (some (pm_i y)), mm x2 R Z Y o2 A2 c2 G2 g2)) : pE ns 12 145 [pm_r 0 0, pm_i p, pm_i a, pm_r 60 0] (mm x R Z Y o A c G g) (.inl (some (pm_i (nI 0))), mm x2 R Z Y y.toInt64 A2 c2 G2 g2) := en (d := 11) rfl (b145_0 hR hE (b145_8 hR (j1 := 0) rfl (by decide) rfl))
theorem w145x0 (hR : RS R) {p a : Int32} (hE : pE ns 11 15 [pm_r 0 0, pm_i p, pm_i a] (mm x R Z Y o A c G g) (.inr 0, mm x2 R Z Y o2 A2 c2 G2 g2)) : pE ns 12 145 [pm_r 0 0, pm_i p, pm_i a, pm_r 60 0] (mm x R Z Y o A c G g) (.inl (some (pm_i (nI 1))), mm x2 R Z Y o2 A2 c2 G2 g2) := en (d := 11) rfl (b145_0h0 hR hE (b145_15 hR rfl))
theorem fkq_ok {H : Nat → Nat → Int32} (h : ¬ fkq H = 8) : 1 ≤ fkq H ∧ fkq H < 8 ∧ H 21 (fkq H) = 0 := by
  have h1 : 1 ≤ fkq H := fst_ge
  have h2 : fkq H ≤ 1 + 7 := fst_le
  have h3 := fst_yes (P := fun k => decide (H 21 k = 0)) (n := 7) (k := 1) (by
    have : fst (fun k => decide (H 21 k = 0)) 1 7 = fkq H := rfl
    omega)
  exact ⟨h1, by omega, of_decide_eq_true h3⟩
theorem pp_ok {p : Nat} {H : Nat → Nat → Int32} (hI : Iv 8 t H) (hp : p < 8) (h1 : H 21 p = nI 1) (hq : ¬ (snd (zf H p) 0 6 = 6 ∨ npi H = 6)) : Iv 8 t (ppF H p (fst (zf H p) 0 6) (snd (zf H p) 0 6) (npi H)) := by
  have hs6 := (snd_le (P := zf H p) (n := 6) (k := 0)).2
  have hn6 : npi H ≤ 0 + 6 := fst_le
  have hfs := fst_snd (P := zf H p) (n := 6) (k := 0) (by omega)
  exact iv_pp hI hp (h34_0 hI hp h1) (by omega) (by omega) (by omega)
theorem cl_ok {p : Nat} {a : Int32} {H : Nat → Nat → Int32} (hI : Iv 8 t H) (hp : p < 8) (h1 : H 21 p = nI 1) (hq : ¬ fof H p a ≤ 0) : Iv 8 t (pm_v H 32 (6 * p + a.toNatClampNeg) (nI 0)) := by
  obtain ⟨k', hk', e', ef'⟩ := fof_ix (G := H) (p := p) (f := a) (fun h'' => hq (Int32.le_of_lt h''))
  rw [e', nI_clamp (by omega)]
  exact iv_32 hI hp (h34_0 hI hp h1) hk' (by decide)
theorem o132 (hR : RS R) (hJ : J t A c G g) (hx : x < 600) (ht : t + 2000 < 2 ^ 30) {p : Int32} : OpJ ns x R Z Y o A c G g t 132 [pm_r 0 0, pm_i p, pm_r 60 0] 82 [pm_r 20 0, pm_i p] := by
  obtain ⟨hG, hr⟩ := id hJ
  by_cases hrd : rdy (thr G (nI 0)) p = true
  · obtain ⟨k, hk, rfl, h1⟩ := rdy_t hrd
    obtain ⟨A', hr', hE⟩ := c2 (ns := ns) (d := 3) (x := x) (Z := Z) (Y := Y) (o := o) (G := G) (g := g) hR hr hk hG.1 (by omega) hG.2.2.1 h1
    exact oj_ok (w132 hR hE) (r82 (d := 2) hR rfl hk hG.1 (by omega) h1) (gd_if hG (fun hq => gd_st hG (iv_fk hG.1 hk h1 (fkq_ok hq).1 (fkq_ok hq).2.1 (fkq_ok hq).2.2) (by omega) tz_fk sz_fk)) hr'
  · have hrd : rdy (thr G (nI 0)) p = false := by simpa using hrd
    exact oj_no hJ (by decide) (w132x0 hR (c2x (d := 3) hR hr hx hrd)) (r82n (d := 8) hR (rdy_h.symm.trans hrd))
theorem o133 (hR : RS R) (hJ : J t A c G g) (hx : x < 600) (ht : t + 2000 < 2 ^ 30) {p a : Int32} : OpJ ns x R Z Y o A c G g t 133 [pm_r 0 0, pm_i p, pm_i a, pm_r 60 0] 83 [pm_r 20 0, pm_i p, pm_i a] := by
  obtain ⟨hG, hr⟩ := id hJ
  by_cases hrd : rdy (thr G (nI 0)) p = true
  · obtain ⟨k, hk, rfl, h1⟩ := rdy_t hrd
    obtain ⟨A', hr', hE⟩ := c3 (ns := ns) (d := 3) (x := x) (Z := Z) (Y := Y) (o := o) (G := G) (g := g) hR hr hk hG.1 (by omega) hG.2.2.1 h1
    exact oj_ok (w133 hR hE) (r83 (d := 2) hR rfl hk hG.1 (by omega) h1) (gd_if hG (fun hq => gd_st hG (iv_finish hG.1 (by omega) hk (Or.inr rfl) (Or.inl h1)) (by omega) (tz_of (fun f k h => finish_n h)) (by obtain ⟨m, hm, em⟩ := pk_andE a (m := nI 63) 6 (by decide); rw [em]; exact sz_finish (by omega)))) hr'
  · have hrd : rdy (thr G (nI 0)) p = false := by simpa using hrd
    exact oj_no hJ (by decide) (w133x0 hR (c3x (d := 3) hR hr hx hrd)) (r83n (d := 8) hR (rdy_h.symm.trans hrd))
theorem o134 (hR : RS R) (hJ : J t A c G g) (hx : x < 600) (ht : t + 2000 < 2 ^ 30) {p : Int32} : OpJ ns x R Z Y o A c G g t 134 [pm_r 0 0, pm_i p, pm_r 60 0] 84 [pm_r 20 0, pm_i p] := by
  obtain ⟨hG, hr⟩ := id hJ
  by_cases hrd : rdy (thr G (nI 0)) p = true
  · obtain ⟨k, hk, rfl, h1⟩ := rdy_t hrd
    obtain ⟨A', hr', hE⟩ := c4 (ns := ns) (d := 3) (x := x) (Z := Z) (Y := Y) (o := o) (G := G) (g := g) hR hr hk hG.1 (by omega) hG.2.2.1 h1
    exact oj_ok (w134 hR hE) (r84 (d := 2) hR rfl hk hG.1 (by omega) h1) (gd_if hG (fun hq => gd_st hG (pp_ok hG.1 hk h1 hq) (by omega) tz_pp (Sz.tr (Sz.tr (sz_v (by decide)) (sz_v (by decide))) (sz_v (by decide))))) hr'
  · have hrd : rdy (thr G (nI 0)) p = false := by simpa using hrd
    exact oj_no hJ (by decide) (w134x0 hR (c4x (d := 3) hR hr hx hrd)) (r84n (d := 8) hR (rdy_h.symm.trans hrd))
theorem o135 (hR : RS R) (hJ : J t A c G g) (hx : x < 600) (ht : t + 2000 < 2 ^ 30) {p a b : Int32} : OpJ ns x R Z Y o A c G g t 135 [pm_r 0 0, pm_i p, pm_i a, pm_i b, pm_r 60 0] 85 [pm_r 20 0, pm_i p, pm_i a, pm_i b] := by
  obtain ⟨hG, hr⟩ := id hJ
  by_cases hrd : rdy (thr G (nI 0)) p = true
  · obtain ⟨k, hk, rfl, h1⟩ := rdy_t hrd
    obtain ⟨A', hr', hE⟩ := c5 (ns := ns) (d := 3) (x := x) (Z := Z) (Y := Y) (o := o) (G := G) (g := g) hR hr hk hG.1 (by omega) hG.2.2.1 h1
    exact oj_ok (w135 hR hE) (r85 (d := 2) hR rfl hk hG.1 (by omega) h1) (gd_if hG (fun hq => gd_st hG (iv_cy hG.1 hk (h34_0 hG.1 hk h1) (fun e => hq (Or.inl e)) (fun e => hq (Or.inr e))) (by omega) (tz_v (by omega)) (sz_v (by decide)))) hr'
  · have hrd : rdy (thr G (nI 0)) p = false := by simpa using hrd
    exact oj_no hJ (by decide) (w135x0 hR (c5x (d := 3) hR hr hx hrd)) (r85n (d := 8) hR (rdy_h.symm.trans hrd))
theorem o136 (hR : RS R) (hJ : J t A c G g) (hx : x < 600) (ht : t + 2000 < 2 ^ 30) {p a : Int32} : OpJ ns x R Z Y o A c G g t 136 [pm_r 0 0, pm_i p, pm_i a, pm_r 60 0] 86 [pm_r 20 0, pm_i p, pm_i a] := by
  obtain ⟨hG, hr⟩ := id hJ
  by_cases hrd : rdy (thr G (nI 0)) p = true
  · obtain ⟨k, hk, rfl, h1⟩ := rdy_t hrd
    obtain ⟨A', hr', hE⟩ := c6 (ns := ns) (d := 3) (x := x) (Z := Z) (Y := Y) (o := o) (G := G) (g := g) hR hr hk hG.1 (by omega) hG.2.2.1 h1
    exact oj_ok (w136 hR hE) (r86 (d := 2) hR rfl hk hG.1 (by omega) h1) (gd_if hG (fun hq => gd_st hG (cl_ok hG.1 hk h1 hq) (by omega) (tz_v (by omega)) (sz_v (by decide)))) hr'
  · have hrd : rdy (thr G (nI 0)) p = false := by simpa using hrd
    exact oj_no hJ (by decide) (w136x0 hR (c6x (d := 3) hR hr hx hrd)) (r86n (d := 8) hR (rdy_h.symm.trans hrd))
theorem o137 (hR : RS R) (hJ : J t A c G g) (hx : x < 600) (ht : t + 2000 < 2 ^ 30) {p a b : Int32} : OpJ ns x R Z Y o A c G g t 137 [pm_r 0 0, pm_i p, pm_i a, pm_i b, pm_r 60 0] 88 [pm_r 20 0, pm_i p, pm_i a, pm_i b] := by
  obtain ⟨hG, hr⟩ := id hJ
  by_cases hrd : rdy (thr G (nI 0)) p = true
  · obtain ⟨k, hk, rfl, h1⟩ := rdy_t hrd
    by_cases hb : badN b = true
    · exact oj_no hJ (by decide) (w137x1 hR (c7b (d := 3) hR hr hk h1 hx hb)) (r88b (d := 7) hR hk h1 hb)
    · have hb : badN b = false := by simpa using hb
      obtain ⟨A', c', hr', hE⟩ := c7 (ns := ns) (d := 3) (x := x) (Z := Z) (Y := Y) (o := o) (G := G) (g := g) hR hr hk hG.1 (by omega) hG.2.2.1 h1 hb
      exact oj_ok (w137 hR hE) (r88 (d := 1) hR rfl hk hG.1 (by omega) h1 hb) (gd_if hG (fun hq => by obtain ⟨k', m, hk', ek, hm1, hm, em, hc⟩ := cl_rd (w := nI 1) hG.1 hk hb (Or.inl ⟨rfl, by simpa using hq⟩); exact gd_be hG (by rw [ek, em]; exact iv_tf hG.1 hk (h34_0 hG.1 hk h1) hk' hm) tz_tf (Sz.tr (sz_v (by decide)) (sz_v (by decide))) hk (by unfold tfF; rw [v_f (by decide), v_f (by decide)]; exact h1) (Or.inl rfl) hc (by omega))) hr'
  · have hrd : rdy (thr G (nI 0)) p = false := by simpa using hrd
    exact oj_no hJ (by decide) (w137x0 hR (c7x (d := 3) hR hr hx hrd)) (r88n (d := 7) hR (rdy_h.symm.trans hrd))
theorem o140 (hR : RS R) (hJ : J t A c G g) (hx : x < 600) (ht : t + 2000 < 2 ^ 30) {p : Int32} : OpJ ns x R Z Y o A c G g t 140 [pm_r 0 0, pm_i p, pm_r 60 0] 91 [pm_r 20 0, pm_i p] := by
  obtain ⟨hG, hr⟩ := id hJ
  by_cases hrd : rdy (thr G (nI 0)) p = true
  · obtain ⟨k, hk, rfl, h1⟩ := rdy_t hrd
    obtain ⟨A', hr', hE⟩ := c10 (ns := ns) (d := 3) (x := x) (Z := Z) (Y := Y) (o := o) (G := G) (g := g) hR hr hk hG.1 (by omega) hG.2.2.1 h1
    exact oj_ok (w140 hR hE) (r91 (d := 1) hR rfl hk hG.1 (by omega) h1) (gd_be hG hG.1 Tz.rf id hk h1 (Or.inr (Or.inr (Or.inr rfl))) (cl_oth hG.1 hk (Or.inr rfl)) (by omega)) hr'
  · have hrd : rdy (thr G (nI 0)) p = false := by simpa using hrd
    exact oj_no hJ (by decide) (w140x0 hR (c10x (d := 3) hR hr hx hrd)) (r91n (d := 8) hR (rdy_h.symm.trans hrd))
theorem o141 (hR : RS R) (hJ : J t A c G g) (hx : x < 600) (ht : t + 2000 < 2 ^ 30) {p a b : Int32} : OpJ ns x R Z Y o A c G g t 141 [pm_r 0 0, pm_i p, pm_i a, pm_i b, pm_r 60 0] 92 [pm_r 20 0, pm_i p, pm_i a, pm_i b] := by
  obtain ⟨hG, hr⟩ := id hJ
  by_cases hrd : rdy (thr G (nI 0)) p = true
  · obtain ⟨k, hk, rfl, h1⟩ := rdy_t hrd
    by_cases hb : badS a b = true
    · exact oj_no hJ (by decide) (w141x1 hR (c11b (d := 3) hR hr hk h1 hx hb)) (r92b (d := 8) hR hk h1 hb)
    · have hb : badS a b = false := by simpa using hb
      obtain ⟨A', hr', hE⟩ := c11 (ns := ns) (d := 3) (x := x) (Z := Z) (Y := Y) (o := o) (G := G) (g := g) hR hr hk hG.1 (by omega) hG.2.2.1 hG.2.2.2.1 h1 hb
      exact oj_ok (w141 hR hE) (r92 (d := 2) hR rfl hk hG.1 (by omega) h1 hb) (gd_if2 hG (fun _ => by obtain ⟨⟨s, hs1, hs, es⟩, hto⟩ := badS_f hb; rw [es, nI_clamp (by omega)]; exact gd_st hG (iv_sg (p := 0) hG.1 hs hto) (by omega) tz_sg sz_sg)) hr'
  · have hrd : rdy (thr G (nI 0)) p = false := by simpa using hrd
    exact oj_no hJ (by decide) (w141x0 hR (c11x (d := 3) hR hr hx hrd)) (r92n (d := 8) hR (rdy_h.symm.trans hrd))
theorem o142 (hR : RS R) (hJ : J t A c G g) (hx : x < 600) (ht : t + 2000 < 2 ^ 30) {p a b : Int32} : OpJ ns x R Z Y o A c G g t 142 [pm_r 0 0, pm_i p, pm_i a, pm_i b, pm_r 60 0] 93 [pm_r 20 0, pm_i p, pm_i a, pm_i b] := by
  obtain ⟨hG, hr⟩ := id hJ
  by_cases hrd : rdy (thr G (nI 0)) p = true
  · obtain ⟨k, hk, rfl, h1⟩ := rdy_t hrd
    by_cases hb : badA a b = true
    · exact oj_no hJ (by decide) (w142x1 hR (c12b (d := 3) hR hr hk h1 hx hb)) (r93b (d := 8) hR hk h1 hb)
    · have hb : badA a b = false := by simpa using hb
      obtain ⟨A', hr', hE⟩ := c12 (ns := ns) (d := 3) (x := x) (Z := Z) (Y := Y) (o := o) (G := G) (g := g) hR hr hk hG.1 (by omega) hG.2.2.1 h1 hb
      exact oj_ok (w142 hR hE) (r93 (d := 2) hR rfl hk hG.1 (by omega) h1 hb) (by obtain ⟨⟨s, hs1, hs, es⟩, hh⟩ := badA_f hb; rw [es, nI_clamp (by omega)]; exact gd_st hG (iv_ac hG.1 hk hs1 hs hh) (by omega) tz_ac sz_ac) hr'
  · have hrd : rdy (thr G (nI 0)) p = false := by simpa using hrd
    exact oj_no hJ (by decide) (w142x0 hR (c12x (d := 3) hR hr hx hrd)) (r93n (d := 8) hR (rdy_h.symm.trans hrd))
theorem o143 (hR : RS R) (hJ : J t A c G g) (hx : x < 600) (ht : t + 2000 < 2 ^ 30) {p a : Int32} : OpJ ns x R Z Y o A c G g t 143 [pm_r 0 0, pm_i p, pm_i a, pm_r 60 0] 94 [pm_r 20 0, pm_i p, pm_i a] := by
  obtain ⟨hG, hr⟩ := id hJ
  by_cases hrd : rdy (thr G (nI 0)) p = true
  · obtain ⟨k, hk, rfl, h1⟩ := rdy_t hrd
    obtain ⟨A', hr', hE⟩ := c13 (ns := ns) (d := 3) (x := x) (Z := Z) (Y := Y) (o := o) (G := G) (g := g) hR hr hk hG.1 (by omega) hG.2.2.1 h1
    exact oj_ok (w143 hR hE) (r94 (d := 2) hR rfl hk hG.1 (by omega) h1) (gd_st hG (iv_mk hG.1 hk) (by omega) tz_mk sz_mk) hr'
  · have hrd : rdy (thr G (nI 0)) p = false := by simpa using hrd
    exact oj_no hJ (by decide) (w143x0 hR (c13x (d := 3) hR hr hx hrd)) (r94n (d := 8) hR (rdy_h.symm.trans hrd))
theorem o144 (hR : RS R) (hJ : J t A c G g) (hx : x < 600) (ht : t + 2000 < 2 ^ 30) {p a b : Int32} : OpJ ns x R Z Y o A c G g t 144 [pm_r 0 0, pm_i p, pm_i a, pm_i b, pm_r 60 0] 95 [pm_r 20 0, pm_i p, pm_i a, pm_i b] := by
  obtain ⟨hG, hr⟩ := id hJ
  by_cases hrd : rdy (thr G (nI 0)) p = true
  · obtain ⟨k, hk, rfl, h1⟩ := rdy_t hrd
    obtain ⟨A', hr', hE⟩ := c14 (ns := ns) (d := 3) (x := x) (Z := Z) (Y := Y) (o := o) (G := G) (g := g) hR hr hk hG.1 (by omega) hG.2.2.1 h1
    exact oj_ok (w144 hR hE) (r95 (d := 2) hR rfl hk hG.1 (by omega) h1) (gd_if2 hG (fun _ => gd_st hG (iv_oth hG.1 (by omega)) (by omega) (tz_v (by omega)) (sz_v (by decide)))) hr'
  · have hrd : rdy (thr G (nI 0)) p = false := by simpa using hrd
    exact oj_no hJ (by decide) (w144x0 hR (c14x (d := 3) hR hr hx hrd)) (r95n (d := 8) hR (rdy_h.symm.trans hrd))
theorem o145 (hR : RS R) (hJ : J t A c G g) (hx : x < 600) (ht : t + 2000 < 2 ^ 30) {p a : Int32} : OpJ ns x R Z Y o A c G g t 145 [pm_r 0 0, pm_i p, pm_i a, pm_r 60 0] 96 [pm_r 20 0, pm_i p, pm_i a] := by
  obtain ⟨hG, hr⟩ := id hJ
  by_cases hrd : rdy (thr G (nI 0)) p = true
  · obtain ⟨k, hk, rfl, h1⟩ := rdy_t hrd
    obtain ⟨A', hr', hE⟩ := c15 (ns := ns) (d := 3) (x := x) (Z := Z) (Y := Y) (o := o) (G := G) (g := g) hR hr hk hG.1 (by omega) hG.2.2.1 h1
    exact oj_ok (w145 hR hE) (r96 (d := 2) hR rfl hk hG.1 (by omega) h1) (gd_if2 hG (fun _ => gd_st hG (iv_25f hG.1) (by omega) (tz_v (by omega)) (sz_v (by decide)))) hr'
  · have hrd : rdy (thr G (nI 0)) p = false := by simpa using hrd
    exact oj_no hJ (by decide) (w145x0 hR (c15x (d := 3) hR hr hx hrd)) (r96n (d := 8) hR (rdy_h.symm.trans hrd))
theorem o138 (hR : RS R) (hJ : J t A c G g) (hx : x < 600) (ht : t + 2000 < 2 ^ 30) {p a b : Int32} {w : Int64} : OpJ ns x R Z Y o A c G g t 138 [pm_r 0 0, pm_i p, pm_i a, pm_l w, pm_i b, pm_r 60 0] 89 [pm_r 20 0, pm_i p, pm_i a, pm_l w, pm_i b] := by
  obtain ⟨hG, hr⟩ := id hJ
  by_cases hrd : rdy (thr G (nI 0)) p = true
  · obtain ⟨k, hk, rfl, h1⟩ := rdy_t hrd
    by_cases hb : badN b = true
    · exact oj_no hJ (by decide) (w138x1 hR (c8b (d := 3) hR hr hk h1 hx hb)) (r89b (d := 7) hR hk h1 hb)
    · have hb : badN b = false := by simpa using hb
      obtain ⟨A', c', hr', hE⟩ := c8 (ns := ns) (d := 3) (x := x) (Z := Z) (Y := Y) (o := o) (G := G) (g := g) (b := w) hR hr hk hG.1 (by omega) hG.2.2.1 h1 hb
      have h2 := fun o => r89 (ns := ns) (d := 1) (x := x) (Z := Z) (Y := Y) (o := o) (A := A') (c := c') (g := g) (G := G) (a := a) (b := w) hR rfl hk hG.1 (by omega) h1 hb
      by_cases hw : badW (fof (thr G (nI 0)) k a) = true
      · rw [if_pos hw] at hE
        rw [if_pos hw, if_pos hw] at hr'
        simp only [if_pos hw] at h2
        exact oj_ok (w138 hR hE) (h2 _) (gd_mono hG (by omega)) hr'
      · rw [if_neg hw] at hE
        rw [if_neg hw, if_neg hw] at hr'
        simp only [if_neg hw] at h2
        obtain ⟨k', m, hk', ek, hm1, hm, em, hc⟩ := cl_rd (w := nI 2) hG.1 hk hb (Or.inr ⟨rfl, by simpa using hw⟩)
        exact oj_ok (w138 hR hE) (h2 _) (gd_be hG (by rw [ek, em]; exact iv_tf hG.1 hk (h34_0 hG.1 hk h1) hk' hm) tz_tf (Sz.tr (sz_v (by decide)) (sz_v (by decide))) hk (by unfold tfF; rw [v_f (by decide), v_f (by decide)]; exact h1) (Or.inr (Or.inl rfl)) hc (by omega)) hr'
  · have hrd : rdy (thr G (nI 0)) p = false := by simpa using hrd
    exact oj_no hJ (by decide) (w138x0 hR (c8x (d := 3) hR hr hx hrd)) (r89n (d := 7) hR (rdy_h.symm.trans hrd))
theorem o139 (hR : RS R) (hJ : J t A c G g) (hx : x < 600) (ht : t + 2000 < 2 ^ 30) {p a : Int32} (hz : a = 0 ∨ a = 1) : OpJ ns x R Z Y o A c G g t 139 [pm_r 0 0, pm_i p, pm_i a, pm_r 60 0] 90 [pm_r 20 0, pm_i p, pm_i a] := by
  obtain ⟨hG, hr⟩ := id hJ
  by_cases hrd : rdy (thr G (nI 0)) p = true
  · obtain ⟨k, hk, rfl, h1⟩ := rdy_t hrd
    obtain ⟨A', hr', hE⟩ := c9 (ns := ns) (d := 3) (x := x) (Z := Z) (Y := Y) (o := o) (G := G) (g := g) hR hr hk hG.1 (by omega) hG.2.2.1 h1 hz
    have hI' : Iv 8 t (pm_v (thr G (nI 0)) 38 k a) := iv_oth hG.1 (by omega)
    exact oj_ok (w139 hR hE) (r90 (d := 1) hR rfl hk hG.1 (by omega) h1 hz) (gd_be hG hI' (tz_v (by omega)) (sz_v (by decide)) hk (by rw [v_f (by decide)]; exact h1) (Or.inr (Or.inr (Or.inl rfl))) (cl_oth hI' hk (Or.inl rfl)) (by omega)) hr'
  · have hrd : rdy (thr G (nI 0)) p = false := by simpa using hrd
    exact oj_no hJ (by decide) (w139x0 hR (c9x (d := 3) hR hr hx hrd)) (r90n (d := 8) hR (rdy_h.symm.trans hrd))
end L1
