/-! @85.q2@ the class: calls, signals, groups -/
def cY (ns d mi : Nat) (a : List pm_V) (x : Nat) (R : Nat → Nat → Nat → Option (Nat × Nat)) (Z : Nat → Nat → Nat → Int32) (Y : Nat → Nat → Nat → Int64) (o : Int64) (A : Nat → Nat → Nat → Int32) (c : Nat → Int64) (G : Nat → Nat → Int32) (g : Nat → Int64) (v : pm_O) (H : Nat → Nat → Int32) (h : Nat → Int64) : Prop := ∃ A' c', Rel A' c' H h ∧ pE ns d mi a (mm x R Z Y o A c G g) (v, mm x R Z Y o A' c' G g)
theorem knd_n {v : Nat} (hv : v < 14) : knd (nI v) = nI (if 2 ≤ v then 2 + v % 2 else v) := by
  unfold knd
  by_cases h : 2 ≤ v
  · rw [if_pos (nI_le h (by omega)), if_pos h, pk_rem (by omega) (by decide) (by decide), nI_add]
  · rw [if_neg (nI_ge (by omega) (by decide)), if_neg h]
theorem badR_n {v : Nat} (hv : v < 14) : badR (nI v) = decide (v = 0 ∨ (2 ≤ v ∧ v % 2 = 1)) := by
  unfold badR
  rw [pk_rem (by omega) (by decide) (by decide)]
  rw [Bool.eq_iff_iff]
  simp only [Bool.or_eq_true, Bool.and_eq_true, Bool.not_eq_true', decide_eq_true_eq, decide_eq_false_iff_not]
  rw [← nI_0, nI_leI (by omega) (by decide), nI_leI (by omega) (by decide), nI_eq (by omega) (by decide)]
  omega
theorem badW_n {v : Nat} (hv : v < 14) : badW (nI v) = decide (v % 2 = 0) := by
  unfold badW
  rw [pk_rem (by omega) (by decide) (by decide)]
  rw [Bool.eq_iff_iff]
  simp only [Bool.or_eq_true, decide_eq_true_eq]
  rw [← nI_0, nI_leI (by omega) (by decide), nI_eq (by omega) (by decide)]
  omega
theorem cpN_no {q : Int32} {s : Nat} {G : Nat → Nat → Int32} : ∀ {n k : Nat}, (∀ j, k ≤ j → j < k + n → (lv G j && decide (G 23 j = q)) = false) → cpN G q s k n = G
  | 0, k, _ => rfl
  | n + 1, k, h => by
    simp only [cpN]
    have hk := h k (Nat.le_refl _) (by omega)
    rw [if_neg (by simpa using hk)]
    exact cpN_no (fun j a b => h j (by omega) (by omega))
section Q3
variable {ns d x : Nat} {R : Nat → Nat → Nat → Option (Nat × Nat)} {Z A : Nat → Nat → Nat → Int32} {Y : Nat → Nat → Nat → Int64} {o : Int64} {c g : Nat → Int64} {G : Nat → Nat → Int32} {H : Nat → Nat → Int32} {h : Nat → Int64}
theorem cyi {mi : Nat} {a : List pm_V} {v : pm_O} (hl : (Nat.ble (mi + 1) 146 && Nat.ble (pm_ent a).length (pm_maxL mi)) = true) (hw : pW ns d mi 0 (pm_ent a ++ List.replicate (pm_maxL mi - (pm_ent a).length) none) [] (mm x R Z Y o A c G g) (fun r => ∃ A' c', Rel A' c' H h ∧ r = (v, mm x R Z Y o A' c' G g))) : cY ns (d + 1) mi a x R Z Y o A c G g v H h := by
  obtain ⟨r, ⟨A', c', h1, rfl⟩, hE⟩ := enQ hl hw
  exact ⟨A', c', h1, hE⟩
theorem c107 (hR : RS R) {p : Nat} {w a n : Int32} {b : Int64} (hp : p < 8) : pE ns (d + 1) 107 [pm_r 13 p, pm_i w, pm_i a, pm_i n, pm_l b] (mm x R Z Y o A c G g) (.inl none, mm x R Z Y o (pm_u (pm_u (pm_u A 13 p 0 w) 13 p 1 a) 13 p 2 n) (pm_w c p b) G g) := en rfl (b107_0 hR hp rfl)
theorem rl_tf (hr : Rel A c H h) {p : Nat} {w a n : Int32} (hp : p < 8) (h1 : H 21 p = nI 1) (c1 : w = nI 2 → c p = h p) : Rel (pm_u (pm_u (pm_u A 13 p 0 w) 13 p 1 a) 13 p 2 n) c (pm_v (tfF H p a n) 34 p w) h := by
  have a1 : Rel (pm_u A 13 p 0 w) c (pm_v H 34 p w) h := rl_34 hp hr c1 (fun _ e => absurd h1 e)
  have a2 : Rel (pm_u (pm_u A 13 p 0 w) 13 p 1 a) c (pm_v (pm_v H 34 p w) 35 p a) h := rl_u a1 (tk1 hp) (by simp)
  have a3 : Rel (pm_u (pm_u (pm_u A 13 p 0 w) 13 p 1 a) 13 p 2 n) c (pm_v (pm_v (pm_v H 34 p w) 35 p a) 36 p n) h := rl_u a2 (tk2 hp) (by simp)
  have e : pm_v (tfF H p a n) 34 p w = pm_v (pm_v (pm_v H 34 p w) 35 p a) 36 p n := by
    unfold tfF
    rw [v_swap (f := 36) (f' := 34) (by decide), v_swap (f := 35) (f' := 34) (by decide)]
  rw [e]
  exact a3
theorem c7b (hR : RS R) (hr : Rel A c H h) {p : Nat} {a n : Int32} (hp : p < 8) (h1 : H 21 p = nI 1) (hx : x < 600) (hn : badN n = true) : pE ns (d + 8) 7 [pm_r 0 0, pm_i (nI p), pm_i a, pm_i n] (mm x R Z Y o A c G g) (.inr 1, mm (x + 1) R Z Y o A c G g) := en rfl (b7_0 hR (c23 (d := d + 5) hR hr hp h1) (b7_5x hR hp (c22x hR hx hn) rfl))
theorem c8b (hR : RS R) (hr : Rel A c H h) {p : Nat} {a n : Int32} {b : Int64} (hp : p < 8) (h1 : H 21 p = nI 1) (hx : x < 600) (hn : badN n = true) : pE ns (d + 8) 8 [pm_r 0 0, pm_i (nI p), pm_i a, pm_l b, pm_i n] (mm x R Z Y o A c G g) (.inr 1, mm (x + 1) R Z Y o A c G g) := en rfl (b8_0 hR (c23 (d := d + 5) hR hr hp h1) (b8_5x hR hp (c22x hR hx hn) rfl))
theorem c7 (hR : RS R) (hr : Rel A c H h) {p t : Nat} {a n : Int32} (hp : p < 8) (hI : Iv 8 t H) (ht : t + 900 < 2 ^ 30) (hst : St H) (h1 : H 21 p = nI 1) (hn : badN n = false) : cY ns (d + 8) 7 [pm_r 0 0, pm_i (nI p), pm_i a, pm_i n] x R Z Y o A c G g (.inl (some (pm_i (if badR (fof H p a) = true then -nI 1 else bgV (nI 1) (tfF H p a n) p)))) (if badR (fof H p a) = true then H else beF (nI 1) (tfF H p a n) h p) h := by
  obtain ⟨v, hv, hE, hva⟩ := c113v (ns := ns) (d := d + 6) (x := x) (Z := Z) (Y := Y) (o := o) (G := G) (g := g) (f := a) hR hr hp hI
  have ebad : badR (fof H p a) = decide (v = 0 ∨ (2 ≤ v ∧ v % 2 = 1)) := by
    rcases hva with ⟨q1, rfl, -⟩ | ⟨q1, -⟩
    · simp [badR, Int32.le_of_lt q1]
    · rw [q1]
      exact badR_n hv
  have h21 := c21 (ns := ns) (d := d + 6) (x := x) (Z := Z) (Y := Y) (o := o) (A := A) (c := c) (G := G) (g := g) hR hv
  rw [knd_n hv] at h21
  have kk : ∃ kv, (if 2 ≤ v then 2 + v % 2 else v) = kv ∧ kv < 4 ∧ (kv = 0 ↔ v = 0) ∧ (kv = 3 ↔ (2 ≤ v ∧ v % 2 = 1)) ∧ (kv = 2 ↔ (2 ≤ v ∧ v % 2 = 0)) := by
    refine ⟨_, rfl, ?_⟩
    by_cases h2 : 2 ≤ v
    · rw [if_pos h2]
      omega
    · rw [if_neg h2]
      omega
  obtain ⟨kv, ekv, k2, k20, k23, k22⟩ := kk
  rw [ekv] at h21
  refine cyi rfl (b7_0 hR (c23 (d := d + 5) hR hr hp h1) (b7_5 hR hp (c22 hR hn) (b7_11 hR hp hE (b7_17 hR hp h21 (t7_20 hR hp (fun k => ?_) (fun k k' => ?_) (fun k k' => ?_))))))
  · have e := nI_inj (k.trans nI_0.symm) (by omega) (by decide)
    have hb : badR (fof H p a) = true := by
      rw [ebad]
      simp
      omega
    rw [if_pos hb, if_pos hb]
    exact ⟨A, c, hr, rfl⟩
  · have e := nI_inj k' (by omega) (by decide)
    have hb : badR (fof H p a) = true := by
      rw [ebad]
      simp
      omega
    rw [if_pos hb, if_pos hb]
    exact ⟨A, c, hr, rfl⟩
  · have hb : badR (fof H p a) = false := by
      rw [ebad]
      simp
      rw [← nI_0, nI_eq (by omega) (by decide)] at k
      rw [nI_eq (by omega) (by decide)] at k'
      omega
    rw [if_neg (by rw [hb]; decide), if_neg (by rw [hb]; decide)]
    obtain ⟨k, m, hk, ek, hm1, hm, em, hc⟩ := cl_rd (w := nI 1) hI hp hn (Or.inl ⟨rfl, hb⟩)
    have hI' : Iv 8 t (tfF H p a n) := by rw [ek, em]; exact iv_tf hI hp (h34_0 hI hp h1) hk hm
    have h21' : tfF H p a n 21 p = nI 1 := by unfold tfF; rw [v_f (by decide), v_f (by decide)]; exact h1
    have hst' : St (tfF H p a n) := Sz.tr (sz_v (by decide)) (sz_v (by decide)) hst
    have a1 : Rel (pm_u (pm_u (pm_u A 13 p 0 (nI 1)) 13 p 1 a) 13 p 2 n) (pm_w c p (Int64.ofNat 0)) (pm_v (tfF H p a n) 34 p (nI 1)) h := rl_cc (rl_tf hr hp h1 (fun e => absurd e (by decide))) (by rw [v_eq]; decide)
    obtain ⟨A2, hr2, hE2⟩ := c36 (ns := ns) (d := d + 1) (x := x) (Z := Z) (Y := Y) (o := o) (G := G) (g := g) hR hp a1 hI' (by omega) hst' h21' (Or.inl rfl) hc
    obtain ⟨A3, hr3, hE3⟩ := c37 (ns := ns) (d := d) (x := x) (Z := Z) (Y := Y) (o := o) (G := G) (g := g) hR hr2 (iv_bg hI' hp h21' (Or.inl rfl) hc (by omega)) (by omega) (sz_bg hst')
    exact b7_35 hR hp (c107 hR hp) (b7_47 hR hp hE2 (b7_53 hR hE3 (b7_59 hR ⟨A3, _, hr3, rfl⟩)))
theorem c8 (hR : RS R) (hr : Rel A c H h) {p t : Nat} {a n : Int32} {b : Int64} (hp : p < 8) (hI : Iv 8 t H) (ht : t + 900 < 2 ^ 30) (hst : St H) (h1 : H 21 p = nI 1) (hn : badN n = false) : cY ns (d + 8) 8 [pm_r 0 0, pm_i (nI p), pm_i a, pm_l b, pm_i n] x R Z Y o A c G g (.inl (some (pm_i (if badW (fof H p a) = true then -nI 1 else bgV (nI 2) (tfF H p a n) p)))) (if badW (fof H p a) = true then H else beF (nI 2) (tfF H p a n) (pm_w h p b) p) (if badW (fof H p a) = true then h else pm_w h p b) := by
  obtain ⟨v, hv, hE, hva⟩ := c113v (ns := ns) (d := d + 6) (x := x) (Z := Z) (Y := Y) (o := o) (G := G) (g := g) (f := a) hR hr hp hI
  have ebad : badW (fof H p a) = decide (v % 2 = 0) := by
    rcases hva with ⟨q1, rfl, -⟩ | ⟨q1, -⟩
    · simp [badW, Int32.le_of_lt q1]
    · rw [q1]
      exact badW_n hv
  have h21 := c21 (ns := ns) (d := d + 6) (x := x) (Z := Z) (Y := Y) (o := o) (A := A) (c := c) (G := G) (g := g) hR hv
  rw [knd_n hv] at h21
  have kk : ∃ kv, (if 2 ≤ v then 2 + v % 2 else v) = kv ∧ kv < 4 ∧ (kv = 0 ↔ v = 0) ∧ (kv = 3 ↔ (2 ≤ v ∧ v % 2 = 1)) ∧ (kv = 2 ↔ (2 ≤ v ∧ v % 2 = 0)) := by
    refine ⟨_, rfl, ?_⟩
    by_cases h2 : 2 ≤ v
    · rw [if_pos h2]
      omega
    · rw [if_neg h2]
      omega
  obtain ⟨kv, ekv, k2, k20, k23, k22⟩ := kk
  rw [ekv] at h21
  refine cyi rfl (b8_0 hR (c23 (d := d + 5) hR hr hp h1) (b8_5 hR hp (c22 hR hn) (b8_12 hR hp hE (b8_18 hR hp h21 (t8_21 hR hp (fun k => ?_) (fun k k' => ?_) (fun k k' => ?_))))))
  · have e := nI_inj (k.trans nI_0.symm) (by omega) (by decide)
    have hb : badW (fof H p a) = true := by
      rw [ebad]
      simp
      omega
    rw [if_pos hb, if_pos hb, if_pos hb]
    exact ⟨A, c, hr, rfl⟩
  · have e := nI_inj k' (by omega) (by decide)
    have hb : badW (fof H p a) = true := by
      rw [ebad]
      simp
      omega
    rw [if_pos hb, if_pos hb, if_pos hb]
    exact ⟨A, c, hr, rfl⟩
  · have hb : badW (fof H p a) = false := by
      rw [ebad]
      simp
      rw [← nI_0, nI_eq (by omega) (by decide)] at k
      rw [nI_eq (by omega) (by decide)] at k'
      omega
    rw [if_neg (by rw [hb]; decide), if_neg (by rw [hb]; decide), if_neg (by rw [hb]; decide)]
    obtain ⟨k, m, hk, ek, hm1, hm, em, hc⟩ := cl_rd (w := nI 2) hI hp hn (Or.inr ⟨rfl, hb⟩)
    have hI' : Iv 8 t (tfF H p a n) := by rw [ek, em]; exact iv_tf hI hp (h34_0 hI hp h1) hk hm
    have h21' : tfF H p a n 21 p = nI 1 := by unfold tfF; rw [v_f (by decide), v_f (by decide)]; exact h1
    have hst' : St (tfF H p a n) := Sz.tr (sz_v (by decide)) (sz_v (by decide)) hst
    have a1 : Rel (pm_u (pm_u (pm_u A 13 p 0 (nI 2)) 13 p 1 a) 13 p 2 n) (pm_w c p b) (pm_v (tfF H p a n) 34 p (nI 2)) (pm_w h p b) := rl_tf (rl_c hr) hp h1 (fun _ => by simp [pm_w])
    obtain ⟨A2, hr2, hE2⟩ := c36 (ns := ns) (d := d + 1) (x := x) (Z := Z) (Y := Y) (o := o) (G := G) (g := g) hR hp a1 hI' (by omega) hst' h21' (Or.inr (Or.inl rfl)) hc
    obtain ⟨A3, hr3, hE3⟩ := c37 (ns := ns) (d := d) (x := x) (Z := Z) (Y := Y) (o := o) (G := G) (g := g) hR hr2 (iv_bg hI' hp h21' (Or.inr (Or.inl rfl)) hc (by omega)) (by omega) (sz_bg hst')
    exact b8_36 hR hp (c107 hR hp) (b8_49 hR hp hE2 (b8_55 hR hE3 (b8_61 hR ⟨A3, _, hr3, rfl⟩)))
theorem c9 (hR : RS R) (hr : Rel A c H h) {p t : Nat} {b : Int32} (hp : p < 8) (hI : Iv 8 t H) (ht : t + 900 < 2 ^ 30) (hst : St H) (h1 : H 21 p = nI 1) (hb : b = 0 ∨ b = 1) : cX ns (d + 8) 9 [pm_r 0 0, pm_i (nI p), pm_i b] x R Z Y o A c G g (.inl (some (pm_i (bgV (nI 3) (pm_v H 38 p b) p)))) (beF (nI 3) (pm_v H 38 p b) h p) h := by
  have hI' : Iv 8 t (pm_v H 38 p b) := iv_oth hI (by omega)
  have h21' : pm_v H 38 p b 21 p = nI 1 := by rw [v_f (by decide)]; exact h1
  have hst' : St (pm_v H 38 p b) := sz_v (by decide) hst
  have hc := cl_oth hI' hp (w := nI 3) (Or.inl rfl)
  have a1 : Rel (pm_u A 13 p 0 (nI 3)) c (pm_v H 34 p (nI 3)) h := rl_34 hp hr (fun e => absurd e (by decide)) (fun _ e => absurd h1 e)
  have a2 : Rel (pm_u (pm_u A 13 p 0 (nI 3)) 13 p 4 b) c (pm_v (pm_v H 38 p b) 34 p (nI 3)) h := by
    rw [v_swap (f := 38) (f' := 34) (by decide)]
    exact rl_u a1 (tk4 hp) (by simp)
  obtain ⟨A2, hr2, hE2⟩ := c36 (ns := ns) (d := d + 1) (x := x) (Z := Z) (Y := Y) (o := o) (G := G) (g := g) hR hp a2 hI' (by omega) hst' h21' (Or.inr (Or.inr (Or.inl rfl))) hc
  obtain ⟨A3, hr3, hE3⟩ := c37 (ns := ns) (d := d) (x := x) (Z := Z) (Y := Y) (o := o) (G := G) (g := g) hR hr2 (iv_bg hI' hp h21' (Or.inr (Or.inr (Or.inl rfl))) hc (by omega)) (by omega) (sz_bg hst')
  exact cxi rfl (b9_0 hR (c23 (d := d + 5) hR hr hp h1) (b9_5 hR hp hb hE2 (b9_27 hR hp hE3 (b9_33 hR ⟨A3, hr3, rfl⟩))))
theorem c10 (hR : RS R) (hr : Rel A c H h) {p t : Nat} (hp : p < 8) (hI : Iv 8 t H) (ht : t + 900 < 2 ^ 30) (hst : St H) (h1 : H 21 p = nI 1) : cX ns (d + 8) 10 [pm_r 0 0, pm_i (nI p)] x R Z Y o A c G g (.inl (some (pm_i (bgV (nI 4) H p)))) (beF (nI 4) H h p) h := by
  have hc := cl_oth hI hp (w := nI 4) (Or.inr rfl)
  have a1 : Rel (pm_u A 13 p 0 (nI 4)) c (pm_v H 34 p (nI 4)) h := rl_34 hp hr (fun e => absurd e (by decide)) (fun _ e => absurd h1 e)
  obtain ⟨A2, hr2, hE2⟩ := c36 (ns := ns) (d := d + 1) (x := x) (Z := Z) (Y := Y) (o := o) (G := G) (g := g) hR hp a1 hI (by omega) hst h1 (Or.inr (Or.inr (Or.inr rfl))) hc
  obtain ⟨A3, hr3, hE3⟩ := c37 (ns := ns) (d := d) (x := x) (Z := Z) (Y := Y) (o := o) (G := G) (g := g) hR hr2 (iv_bg hI hp h1 (Or.inr (Or.inr (Or.inr rfl))) hc (by omega)) (by omega) (sz_bg hst)
  exact cxi rfl (b10_0 hR (c23 (d := d + 5) hR hr hp h1) (b10_5 hR hp hE2 (b10_19 hR hp hE3 (b10_24 hR ⟨A3, hr3, rfl⟩))))
theorem lt8 {x : Int32} : x < nI 8 ↔ x ≤ nI 7 := by
  constructor
  · intro hx
    rw [Int32.le_iff_toInt_le]
    rw [Int32.lt_iff_toInt_lt] at hx
    have e8 : (nI 8).toInt = 8 := by decide
    have e7 : (nI 7).toInt = 7 := by decide
    omega
  · intro hx
    exact Int32.lt_of_le_of_lt hx (by decide)
theorem c11b (hR : RS R) (hr : Rel A c H h) {p : Nat} {a b : Int32} (hp : p < 8) (h1 : H 21 p = nI 1) (hx : x < 600) (hb : badS a b = true) : pE ns (d + 8) 11 [pm_r 0 0, pm_i (nI p), pm_i a, pm_i b] (mm x R Z Y o A c G g) (.inr 1, mm (x + 1) R Z Y o A c G g) := by
  refine en rfl (b11_0 hR (c23 (d := d + 5) hR hr hp h1) (t11_5 hR hp (fun _ => b11_29 hR (by omega) hx rfl) (fun _ _ => b11_29 hR (by omega) hx rfl) (fun _ _ _ => b11_29 hR (by omega) hx rfl) (fun k k1 k2 k3 => ?_) (fun k k1 k2 k3 => ?_) (fun _ _ _ _ => b11_29 hR (by omega) hx rfl)))
  · rw [lt8] at k3
    simp [badS, k, k1, k2, k3] at hb
  · rw [lt8] at k3
    simp [badS, k, k1, k2, k3] at hb
theorem c11 (hR : RS R) (hr : Rel A c H h) {p t : Nat} {a b : Int32} (hp : p < 8) (hI : Iv 8 t H) (ht : t + 900 < 2 ^ 30) (hst : St H) (hse : sel H = 8) (h1 : H 21 p = nI 1) (hb : badS a b = false) : cX ns (d + 8) 11 [pm_r 0 0, pm_i (nI p), pm_i a, pm_i b] x R Z Y o A c G g (.inl (some (pm_i (if sgl H a = true then nI 0 else -nI 8)))) (if sgl H a = true then settleF (sgF H a b.toNatClampNeg) h else H) h := by
  obtain ⟨⟨s, hs1, hs, es⟩, hto⟩ := badS_f hb
  simp only [badS, Bool.or_eq_false_iff, Bool.not_eq_false', decide_eq_false_iff_not, decide_eq_true_eq] at hb
  obtain ⟨q1, q2, q3, q4⟩ := hb
  subst es
  rw [nI_clamp (by omega)]
  have hsg := iv_sg (p := 0) (s := s) hI hs hto
  have hss : St (sgF H a s) := sz_sg hst
  refine cxi rfl (b11_0 hR (c23 (d := d + 5) hR hr hp h1) (t11_5 hR hp (fun k => absurd k q1) (fun _ k => absurd k q2) (fun _ _ k => absurd k q3) (fun _ _ _ _ k => ?_) (fun _ _ _ _ k => ?_) (fun _ _ _ k => absurd (lt8.mpr q4) k)))
  · have e1 : sgl H a = ispt H (-nI 1 - a) := if_pos k
    have e2 : sgF H a s = cpF H (-nI 1 - a) s := if_pos k
    rw [e2] at hsg hss
    rw [e1, e2]
    obtain ⟨A2, hr2, hE2⟩ := c32 (ns := ns) (d := d + 2) (x := x) (Z := Z) (Y := Y) (o := o) (G := G) (g := g) (q := -nI 1 - a) hR hr hs1 hs hI (by omega)
    by_cases hi : ispt H (-nI 1 - a) = true
    · obtain ⟨A3, hr3, hE3⟩ := c37 (ns := ns) (d := d) (x := x) (Z := Z) (Y := Y) (o := o) (G := G) (g := g) hR hr2 hsg (by omega) hss
      rw [if_pos hi, if_pos hi]
      rw [hi, bI_t] at hE2
      exact b11_55 hR hE2 (b11_63 hR hE3 (t11_69 hR (fun k => absurd k (by decide)) (fun _ => ⟨A3, hr3, rfl⟩)))
    · have hi' : ispt H (-nI 1 - a) = false := by simpa using hi
      have ecp : cpF H (-nI 1 - a) s = H := cpN_no (fun j _ hj => ex_no.mp hi' j (by omega))
      rw [ecp] at hr2
      obtain ⟨A3, hr3, hE3⟩ := c37 (ns := ns) (d := d) (x := x) (Z := Z) (Y := Y) (o := o) (G := G) (g := g) hR hr2 hI (by omega) hst
      rw [stl hse] at hr3
      rw [if_neg hi, if_neg hi]
      rw [hi', bI_f] at hE2
      exact b11_55 hR hE2 (b11_63 hR hE3 (t11_69 hR (fun _ => ⟨A3, hr3, rfl⟩) (fun k => absurd (by decide) k)))
  · obtain ⟨j, hj, ej⟩ := hto k
    have ec : a.toNatClampNeg = j := by rw [ej, nI_clamp (by omega)]
    have e1 : sgl H a = lv H j := by unfold sgl; rw [if_neg k, ec]
    have e2 : sgF H a s = comF H j s := by unfold sgF; rw [if_neg k, ec]
    rw [e2] at hsg hss
    rw [e1, e2]
    by_cases hl : lv H j = true
    · obtain ⟨A2, hr2, hE2⟩ := c33 (ns := ns) (d := d + 3) (x := x) (Z := Z) (Y := Y) (o := o) (G := G) (g := g) hR hr hj hs1 hs hI (by omega) hl
      obtain ⟨A3, hr3, hE3⟩ := c37 (ns := ns) (d := d) (x := x) (Z := Z) (Y := Y) (o := o) (G := G) (g := g) hR hr2 hsg (by omega) hss
      rw [if_pos hl, if_pos hl]
      exact b11_41 hR ej hj hE2 (b11_52 hR hE3 (t11_69 hR (fun k => absurd k (by decide)) (fun _ => ⟨A3, hr3, rfl⟩)))
    · have hl' : lv H j = false := by simpa using hl
      obtain ⟨A3, hr3, hE3⟩ := c37 (ns := ns) (d := d) (x := x) (Z := Z) (Y := Y) (o := o) (G := G) (g := g) hR hr hI (by omega) hst
      rw [stl hse] at hr3
      rw [if_neg hl, if_neg hl]
      exact b11_41 hR ej hj (c33d (d := d + 5) hR hr hI.1.1 hj hl') (b11_52 hR hE3 (t11_69 hR (fun _ => ⟨A3, hr3, rfl⟩) (fun k => absurd (by decide) k)))
theorem c12b (hR : RS R) (hr : Rel A c H h) {p : Nat} {a b : Int32} (hp : p < 8) (h1 : H 21 p = nI 1) (hx : x < 600) (hb : badA a b = true) : pE ns (d + 8) 12 [pm_r 0 0, pm_i (nI p), pm_i a, pm_i b] (mm x R Z Y o A c G g) (.inr 1, mm (x + 1) R Z Y o A c G g) := by
  refine en rfl (b12_0 hR (c23 (d := d + 5) hR hr hp h1) (t12_5 hR hp (fun _ => b12_27 hR (by omega) hx rfl) (fun _ _ => b12_27 hR (by omega) hx rfl) (fun _ _ _ => b12_27 hR (by omega) hx rfl) (fun k k1 k2 k3 => ?_) (fun _ _ _ _ => b12_27 hR (by omega) hx rfl)))
  simp [badA, k, k1, k2, k3] at hb
theorem c12 (hR : RS R) (hr : Rel A c H h) {p t : Nat} {a b : Int32} (hp : p < 8) (hI : Iv 8 t H) (ht : t + 900 < 2 ^ 30) (hst : St H) (h1 : H 21 p = nI 1) (hb : badA a b = false) : cX ns (d + 8) 12 [pm_r 0 0, pm_i (nI p), pm_i a, pm_i b] x R Z Y o A c G g (.inl (some (pm_i (H 33 (8 * p + a.toNatClampNeg))))) (settleF (acF H p a.toNatClampNeg b) h) h := by
  obtain ⟨⟨s, hs1, hs, es⟩, hh⟩ := badA_f hb
  simp only [badA, Bool.or_eq_false_iff, Bool.not_eq_false', decide_eq_false_iff_not, decide_eq_true_eq] at hb
  obtain ⟨q1, q2, q3, q4⟩ := hb
  subst es
  rw [nI_clamp (by omega)]
  have hac := iv_ac (s := s) hI hp hs1 hs hh
  have hss : St (acF H p s b) := sz_ac hst
  have e10 := r_a hr hp hs1 hs
  have a1 : Rel (pm_u A 10 p s b) c (pm_v H 33 (8 * p + s) b) h := rl_u hr (tac hp hs1 hs) (by simp)
  refine cxi rfl (b12_0 hR (c23 (d := d + 5) hR hr hp h1) (t12_5 hR hp (fun k => absurd k q1) (fun _ k => absurd k q2) (fun _ _ k => absurd k q3) (fun _ _ _ _ => b12_35 hR hp rfl hs (fun k => ?_) (fun k => ?_)) (fun _ _ _ k => absurd q4 k)))
  · have e : acF H p s b = fgt (pm_v H 33 (8 * p + s) b) p s := if_pos k
    rw [e] at hac hss ⊢
    obtain ⟨A2, hr2, hE2⟩ := c117 (ns := ns) (d := d + 6) (x := x) (Z := Z) (Y := Y) (o := o) (G := G) (g := g) hR a1 (i := p) (s := s) hp
    obtain ⟨A3, hr3, hE3⟩ := c37 (ns := ns) (d := d) (x := x) (Z := Z) (Y := Y) (o := o) (G := G) (g := g) hR hr2 hac (by omega) hss
    rw [e10]
    exact b12_57 hR hp hE2 (b12_63 hR hE3 (b12_67 hR ⟨A3, hr3, rfl⟩))
  · have e : acF H p s b = pm_v H 33 (8 * p + s) b := if_neg k
    rw [e] at hac hss ⊢
    obtain ⟨A3, hr3, hE3⟩ := c37 (ns := ns) (d := d) (x := x) (Z := Z) (Y := Y) (o := o) (G := G) (g := g) hR a1 hac (by omega) hss
    rw [e10]
    exact b12_63 hR hE3 (b12_67 hR ⟨A3, hr3, rfl⟩)
theorem c13 (hR : RS R) (hr : Rel A c H h) {p t : Nat} {b : Int32} (hp : p < 8) (hI : Iv 8 t H) (ht : t + 900 < 2 ^ 30) (hst : St H) (h1 : H 21 p = nI 1) : cX ns (d + 8) 13 [pm_r 0 0, pm_i (nI p), pm_i b] x R Z Y o A c G g (.inl (some (pm_i (H 24 p)))) (settleF (mkF H p b) h) h := by
  have e9 := r_9 hr hp
  have a1 : Rel (pm_u A 8 p 9 (b &&& nI 254)) c (pm_v H 24 p (b &&& nI 254)) h := rl_u hr (t9 hp) (by simp)
  have hI1 : Iv p t (pm_v H 24 p (b &&& nI 254)) := iv_24 hI
  have hmk : Iv 8 (t + 7) (mkF H p b) := iv_mk hI hp
  have hss : St (mkF H p b) := sz_mk hst
  obtain ⟨r, hd, hE⟩ := c34 (ns := ns) (d := d + 4) (x := x) (Z := Z) (Y := Y) (o := o) (G := G) (g := g) hR a1 hp hI1 (by omega) (Or.inl (by rw [v_f (by decide)]; exact h1))
  rcases hd with ⟨A2, hr2, rfl⟩ | ⟨A2, K, j, hj, hr2, htell, hIK, hAK, -, rfl⟩
  · obtain ⟨A3, hr3, hE3⟩ := c37 (ns := ns) (d := d) (x := x) (Z := Z) (Y := Y) (o := o) (G := G) (g := g) hR hr2 hmk (by omega) hss
    refine cxi rfl (b13_0 hR (c23 (d := d + 5) hR hr hp h1) (b13_5n hR hp hE (b13_26a hR (c33z (d := d + 6) hR) (b13_36 hR hE3 (b13_41 hR ?_)))))
    rw [e9]
    exact ⟨A3, hr3, rfl⟩
  · obtain ⟨A4, hr4, hE4⟩ := c33 (ns := ns) (d := d + 3) (x := x) (Z := Z) (Y := Y) (o := o) (G := G) (g := g) (s := 7) hR hr2 hj (by decide) (by decide) hIK (by omega) ((lv_A (hIK.1.1 _ hj)).mpr hAK)
    rw [com7 hIK hj hAK, htell] at hr4
    obtain ⟨A3, hr3, hE3⟩ := c37 (ns := ns) (d := d) (x := x) (Z := Z) (Y := Y) (o := o) (G := G) (g := g) hR hr4 hmk (by omega) hss
    refine cxi rfl (b13_0 hR (c23 (d := d + 5) hR hr hp h1) (b13_5 hR hp hE (b13_26 hR hj hE4 (b13_36 hR hE3 (b13_41 hR ?_)))))
    rw [e9]
    exact ⟨A3, hr3, rfl⟩
theorem c14 (hR : RS R) (hr : Rel A c H h) {p t : Nat} {a b : Int32} (hp : p < 8) (hI : Iv 8 t H) (ht : t + 900 < 2 ^ 30) (hst : St H) (h1 : H 21 p = nI 1) : cX ns (d + 8) 14 [pm_r 0 0, pm_i (nI p), pm_i a, pm_i b] x R Z Y o A c G g (.inl (some (pm_i (if gok H p a b = true then nI 0 else -nI 7)))) (if gok H p a b = true then settleF (pm_v H 23 a.toNatClampNeg b) h else H) h := by
  have nd := nd
  have bad : gok H p a b = false → cQ x R Z Y o c G g (.inl (some (pm_i (if gok H p a b = true then nI 0 else -nI 7)))) (if gok H p a b = true then settleF (pm_v H 23 a.toNatClampNeg b) h else H) h (.inl (some (pm_i (-nI 7))), mm x R Z Y o A c G g) := by
    intro hg
    rw [if_neg (by rw [hg]; decide), if_neg (by rw [hg]; decide)]
    exact ⟨A, hr, rfl⟩
  refine cxi rfl (b14_0 hR (c23 (d := d + 5) hR hr hp h1) (t14_5 hR hp (fun k => bad ?_) (fun k k' => bad ?_) (fun k k' => ?_)))
  · simp [gok, k]
  · simp [gok, k']
  · have k0 : ¬ a < 0 := fun e => k (Int32.le_of_lt e)
    rcases pk_ix a (n := 8) (by decide) with h' | h' | ⟨j, hj, e⟩
    · exact absurd h' k0
    · exact absurd h' k'
    · have ec : a.toNatClampNeg = j := by rw [e, nI_clamp (by omega)]
      have hgk : gok H p a b = (lv H j && ((decide (a = nI p) || decide (H 22 j = nI p)) && (decide (b = a) || ispt H b))) := by simp only [gok, k, k', k0, decide_false, Bool.not_false, Bool.true_and, ec]
      refine b14_16 hR e hj (c112 (d := d + 6) hR hr hI.1.1 hj) (t14_25 hR (fun q => bad ?_) (fun q => ?_))
      · rw [hgk, bI_0.mp q]
        rfl
      · have hl := bI_n0.mp q
        have hA := (lv_A (hI.1.1 j hj)).mp hl
        have hz : H 21 j ≠ nI 0 := by
          unfold A1 at hA
          grind
        have fin : gok H p a b = true → pW ns (d + 7) 14 69 [some (pm_r 0 0), some (pm_i (nI p)), some (pm_i a), some (pm_i b), some (pm_r 8 j)] [] (mm x R Z Y o A c G g) (cQ x R Z Y o c G g (.inl (some (pm_i (if gok H p a b = true then nI 0 else -nI 7)))) (if gok H p a b = true then settleF (pm_v H 23 a.toNatClampNeg b) h else H) h) := by
          intro hg
          have a1 : Rel (pm_u A 8 j 8 b) c (pm_v H 23 j b) h := rl_u hr (t8 hj) (by simp)
          obtain ⟨A3, hr3, hE3⟩ := c37 (ns := ns) (d := d) (x := x) (Z := Z) (Y := Y) (o := o) (G := G) (g := g) hR a1 (iv_oth hI (by omega)) (by omega) (sz_v (by decide) hst)
          rw [if_pos hg, if_pos hg, ec]
          exact b14_69 hR hj hE3 (b14_79 hR ⟨A3, hr3, rfl⟩)
        have w53 : (a = nI p ∨ H 22 j = nI p) → pW ns (d + 7) 14 53 [some (pm_r 0 0), some (pm_i (nI p)), some (pm_i a), some (pm_i b), some (pm_r 8 j)] [] (mm x R Z Y o A c G g) (cQ x R Z Y o c G g (.inl (some (pm_i (if gok H p a b = true then nI 0 else -nI 7)))) (if gok H p a b = true then settleF (pm_v H 23 a.toNatClampNeg b) h else H) h) := by
          intro ho
          have ho' : (decide (a = nI p) || decide (H 22 j = nI p)) = true := by simpa using ho
          refine b14_53 hR hj (fun q2 => fin ?_) (fun q2 => b14_58 hR hj (c26 (d := d + 5) hR hr hI.1.1) (t14_63 hR hj (fun q3 => bad ?_) (fun q3 => fin ?_)))
          · rw [hgk, hl, ho']
            simp [q2]
          · rw [hgk, hl, ho', bI_0.mp q3]
            simp [q2]
          · rw [hgk, hl, ho', bI_n0.mp q3]
            simp
        refine b14_31 hR e hj (fun q2 => w53 (Or.inl q2)) (fun q2 => b14_44 hR hj (fun q3 => w53 (Or.inr ?_)) (fun q3 => b14_66 hR (bad ?_)))
        · rw [r_7 hr hj hz] at q3
          exact q3
        · rw [r_7 hr hj hz] at q3
          rw [hgk]
          simp [q2, q3]
theorem c15 (hR : RS R) (hr : Rel A c H h) {p t : Nat} {a : Int32} (hp : p < 8) (hI : Iv 8 t H) (ht : t + 900 < 2 ^ 30) (hst : St H) (h1 : H 21 p = nI 1) : cX ns (d + 8) 15 [pm_r 0 0, pm_i (nI p), pm_i a] x R Z Y o A c G g (.inl (some (pm_i (if fok H p a = true then nI 0 else -nI 7)))) (if fok H p a = true then settleF (pm_v H 20 25 a) h else H) h := by
  have fin : fok H p a = true → pW ns (d + 7) 15 35 [some (pm_r 0 0), some (pm_i (nI p)), some (pm_i a), some (pm_r 8 p)] [] (mm x R Z Y o A c G g) (cQ x R Z Y o c G g (.inl (some (pm_i (if fok H p a = true then nI 0 else -nI 7)))) (if fok H p a = true then settleF (pm_v H 20 25 a) h else H) h) := by
    intro hg
    have a1 : Rel (pm_u A 3 0 5 a) c (pm_v H 20 25 a) h := rl_u hr tfg (by simp)
    obtain ⟨A3, hr3, hE3⟩ := c37 (ns := ns) (d := d) (x := x) (Z := Z) (Y := Y) (o := o) (G := G) (g := g) hR a1 (iv_25f hI) (by omega) (sz_v (by decide) hst)
    rw [if_pos hg, if_pos hg]
    exact b15_35 hR hE3 (b15_47 hR ⟨A3, hr3, rfl⟩)
  have bad : fok H p a = false → cQ x R Z Y o c G g (.inl (some (pm_i (if fok H p a = true then nI 0 else -nI 7)))) (if fok H p a = true then settleF (pm_v H 20 25 a) h else H) h (.inl (some (pm_i (-nI 7))), mm x R Z Y o A c G g) := by
    intro hg
    rw [if_neg (by rw [hg]; decide), if_neg (by rw [hg]; decide)]
    exact ⟨A, hr, rfl⟩
  refine cxi rfl (b15_0 hR (c23 (d := d + 5) hR hr hp h1) (b15_5 hR hp (c26 (d := d + 5) hR hr hI.1.1) (t15_11 hR hp (fun k => bad ?_) (fun k k' => fin ?_) (fun k k' k2 => fin ?_) (fun k k' k2 => bad ?_))))
  · simp [fok, bI_0.mp k]
  · have e0 : p = 0 := nI_inj (k'.trans nI_0.symm) (by omega) (by decide)
    simp [fok, bI_n0.mp k, e0]
  · rw [r_8 hr hp, r_fg hr] at k2
    simp [fok, bI_n0.mp k, k2]
  · have e0 : ¬ p = 0 := fun e => k' (by rw [e]; exact nI_0)
    rw [r_8 hr hp, r_fg hr] at k2
    simp [fok, e0, k2]
end Q3
