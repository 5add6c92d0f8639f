/-! @83.a3@ what an ending tells is small; which call is next -/
def St (G : Nat → Nat → Int32) : Prop := ∀ k, k < 8 → ∃ m, m < 128 ∧ G 29 k = nI m
def Sz (G G' : Nat → Nat → Int32) : Prop := St G → St G'
theorem sz_of {G G' : Nat → Nat → Int32} (h : ∀ k, G' 29 k = G 29 k) : Sz G G' := fun hs k hk => by rw [h]; exact hs k hk
theorem Sz.tr {G G' G'' : Nat → Nat → Int32} (h : Sz G G') (h' : Sz G' G'') : Sz G G'' := fun k => h' (h k)
theorem sz_v {G : Nat → Nat → Int32} {f k : Nat} {v : Int32} (h : f ≠ 29) : Sz G (pm_v G f k v) := sz_of (fun k => v_f (fun e => h e.symm))
theorem sz_tell {G : Nat → Nat → Int32} {p : Nat} : Sz G (tellF G p) := sz_of (fun k => tell_f (by omega))
theorem sz_hear {G : Nat → Nat → Int32} {p : Nat} {s : Int32} : Sz G (hearF G p s) := sz_of (fun k => hear_f (by omega))
theorem sz_halt {G : Nat → Nat → Int32} {p : Nat} : Sz G (haltF G p) := Sz.tr (Sz.tr (Sz.tr (sz_v (by decide)) (sz_v (by decide))) (sz_v (by decide))) sz_tell
theorem sz_end {G : Nat → Nat → Int32} {p m : Nat} (hm : m < 128) : Sz G (endF G p (nI m)) := by
  intro hs k hk
  have e : endF G p (nI m) 29 k = if k = p then nI m else G 29 k := by
    unfold endF
    rw [v_f (by decide), v_f (by decide)]
    by_cases e : k = p
    · subst e
      rw [v_eq, if_pos rfl]
    · rw [v_k e, if_neg e, v_f (by decide)]
      unfold rp fz
      rw [if_neg (by omega), if_neg (by omega)]
  rw [e]
  split
  · exact ⟨m, hm, rfl⟩
  · exact hs k hk
theorem sz_finish {G : Nat → Nat → Int32} {p m : Nat} (hm : m < 128) : Sz G (finishF G p (nI m)) := Sz.tr (sz_end hm) sz_tell
theorem sz_fgt {G : Nat → Nat → Int32} {p s : Nat} : Sz G (fgt G p s) := sz_v (by decide)
theorem sz_byDef {G : Nat → Nat → Int32} {p s : Nat} : Sz G (byDefF G p s) := by
  unfold byDefF
  split
  · exact id
  · split
    · exact sz_finish (by omega)
    · split
      · exact sz_halt
      · exact id
theorem sz_dst {G : Nat → Nat → Int32} {p s : Nat} : Sz G (dst G p s) := by
  unfold dst
  split
  · split
    · exact Sz.tr sz_fgt sz_hear
    · split
      · exact Sz.tr sz_fgt sz_byDef
      · exact sz_fgt
  · exact id
theorem sz_delN {p : Nat} : ∀ {n s : Nat} {G : Nat → Nat → Int32}, Sz G (delN G p s n)
  | 0, s, G => id
  | n + 1, s, G => Sz.tr sz_dst sz_delN
theorem sz_adm {G : Nat → Nat → Int32} {p s : Nat} : Sz G (admF G p s) := by
  have h1 : Sz G (ad1 G p s) := by
    unfold ad1
    split
    · split
      · exact Sz.tr (sz_v (by decide)) (sz_v (by decide))
      · exact sz_v (by decide)
    · split
      · exact sz_v (by decide)
      · exact id
  unfold admF
  split
  · exact Sz.tr h1 (sz_v (by decide))
  · exact h1
theorem sz_com {G : Nat → Nat → Int32} {p s : Nat} : Sz G (comF G p s) := by
  unfold comF
  split
  · split
    · split
      · exact id
      · exact sz_finish (by decide)
    · exact Sz.tr sz_adm sz_delN
  · exact id
theorem sz_cpN {q : Int32} {s : Nat} : ∀ {n k : Nat} {G : Nat → Nat → Int32}, Sz G (cpN G q s k n)
  | 0, k, G => id
  | n + 1, k, G => by
    simp only [cpN]
    refine Sz.tr ?_ sz_cpN
    split
    · exact sz_com
    · exact id
theorem sz_cp {G : Nat → Nat → Int32} {q : Int32} {s : Nat} : Sz G (cpF G q s) := sz_cpN
theorem sz_pf {G : Nat → Nat → Int32} {w : Int32} {b : Int64} {p : Nat} : Sz G (pfW w G b p) := sz_of (fun k => pf_f (by omega))
theorem sz_fin {G : Nat → Nat → Int32} {p : Nat} {v : Int32} : Sz G (finF G p v) := Sz.tr (Sz.tr (sz_v (by decide)) (sz_v (by decide))) (sz_v (by decide))
theorem sz_ans {G : Nat → Nat → Int32} {b : Int64} {p : Nat} : Sz G (ansF G b p) := by
  have h : Sz G (finF (pfF G b p) p (pfV G p)) := by
    rw [pfF_W]
    exact Sz.tr sz_pf sz_fin
  unfold ansF
  split
  · exact Sz.tr h sz_com
  · exact h
theorem sz_step {G : Nat → Nat → Int32} {g : Nat → Int64} : Sz G (stepF G g) := by
  unfold stepF
  split
  · exact sz_cp
  · exact sz_ans
theorem sz_stN {g : Nat → Int64} : ∀ {n : Nat} {G : Nat → Nat → Int32}, Sz G (stN g G n)
  | 0, G => id
  | n + 1, G => by
    simp only [stN]
    split
    · exact id
    · exact Sz.tr sz_step sz_stN
theorem sz_settle {G : Nat → Nat → Int32} {g : Nat → Int64} : Sz G (settleF G g) := sz_stN
theorem sz_bg {G : Nat → Nat → Int32} {w : Int32} {g : Nat → Int64} {p : Nat} : Sz G (bgF w G g p) := by
  unfold bgF
  split
  · split
    · exact Sz.tr sz_pf sz_com
    · exact sz_pf
  · exact Sz.tr (Sz.tr (Sz.tr (Sz.tr (sz_v (by decide)) (sz_v (by decide))) (sz_v (by decide))) (sz_v (by decide))) (sz_v (by decide))
theorem sz_be {G : Nat → Nat → Int32} {w : Int32} {g : Nat → Int64} {p : Nat} : Sz G (beF w G g p) := Sz.tr sz_bg sz_settle
theorem sz_key {G : Nat → Nat → Int32} {c : Int32} : Sz G (keyF G c) := by
  have hp : ∀ {G : Nat → Nat → Int32} {c : Int32}, Sz G (putF G c) := by
    intro G c
    unfold putF
    split
    · exact id
    · exact Sz.tr (sz_v (by decide)) (sz_v (by decide))
  have hl : ∀ {G : Nat → Nat → Int32}, Sz G (ldF G) := fun {G} => Sz.tr (Sz.tr (sz_v (by decide)) (sz_v (by decide))) (sz_v (by decide))
  have hc : ∀ {G : Nat → Nat → Int32}, Sz G (clrF G) := fun {G} => Sz.tr (sz_v (by decide)) (sz_v (by decide))
  unfold keyF
  split
  · exact Sz.tr hc sz_cp
  · split
    · exact Sz.tr hc sz_cp
    · split
      · split
        · exact id
        · exact sz_v (by decide)
      · split
        · exact sz_v (by decide)
        · split
          · split
            · exact Sz.tr hp hl
            · exact id
          · split
            · split
              · exact hl
              · exact id
            · split
              · exact hp
              · exact id
theorem sz_fk {G : Nat → Nat → Int32} {p q : Nat} : Sz G (fkF G p q) := by
  intro hs k hk
  have e : fkF G p q 29 k = if k = q then nI 0 else G 29 k := by simp [fkF]
  rw [e]
  split
  · exact ⟨0, by decide, rfl⟩
  · exact hs k hk
theorem sz_sg {G : Nat → Nat → Int32} {to : Int32} {s : Nat} : Sz G (sgF G to s) := by
  unfold sgF
  split
  · exact sz_cp
  · exact sz_com
theorem sz_ac {G : Nat → Nat → Int32} {p s : Nat} {h : Int32} : Sz G (acF G p s h) := by
  unfold acF
  split
  · exact Sz.tr (sz_v (by decide)) sz_fgt
  · exact sz_v (by decide)
theorem sz_mk {G : Nat → Nat → Int32} {p : Nat} {b : Int32} : Sz G (mkF G p b) := Sz.tr (sz_v (by decide)) sz_delN
theorem n9 {k : Nat} (hk : k < 2 ^ 31) : nI k ≠ -nI 9 ∧ nI k ≠ -nI 10 := by
  have h1 : ∀ x : Int32, x < 0 → nI k ≠ x := by
    intro x hx e
    rw [← e] at hx
    exact nI_pos hk hx
  exact ⟨h1 _ (by decide), h1 _ (by decide)⟩
/-- what a call done answers is none of the two that say that it isn't done -/
theorem pv_ne {t p : Nat} {w : Int32} {G : Nat → Nat → Int32} (hs : St G) (hp : p < 8) (e36 : ∃ n, n ≤ 8 ∧ G 36 p = nI n) : pvW w G p ≠ -nI 9 ∧ pvW w G p ≠ -nI 10 := by
  obtain ⟨n, hn, e36⟩ := e36
  have hnn : ∀ x : Int32, x.toNatClampNeg < 2 ^ 31 := by
    intro x
    have := x.toNatClampNeg_lt
    omega
  have key : pvW w G p = -nI 3 ∨ pvW w G p = -nI 5 ∨ pvW w G p = -nI 6 ∨ ∃ k, k < 2 ^ 31 ∧ pvW w G p = nI k := by
    unfold pvW
    split
    · unfold rpV
      split
      · exact Or.inl rfl
      · have h4 := chd_le (G := G) (p := p) (w := 4)
        have h3 := chd_le (G := G) (p := p) (w := 3)
        split
        · rename_i h
          obtain ⟨m, hm, e⟩ := hs (chd G p 4) (by omega)
          exact Or.inr (Or.inr (Or.inr ⟨chd G p 4 + 8 * m, by omega, by rw [e, nI_m, nI_add]⟩))
        · exact Or.inr (Or.inr (Or.inr ⟨chd G p 3 + 1024, by omega, by rw [nI_add]⟩))
    · split
      · unfold gvV
        split
        · exact Or.inr (Or.inr (Or.inl rfl))
        · exact Or.inr (Or.inr (Or.inr ⟨n, by omega, e36⟩))
      · split
        · split
          · exact Or.inr (Or.inr (Or.inr ⟨tlN G p, hnn _, rfl⟩))
          · exact Or.inr (Or.inl rfl)
        · exact Or.inr (Or.inr (Or.inr ⟨tbN G p (pix (fv G p)), hnn _, rfl⟩))
  rcases key with h | h | h | ⟨k, hk, h⟩
  · rw [h]
    decide
  · rw [h]
    decide
  · rw [h]
    decide
  · rw [h]
    exact n9 hk
theorem pck_min {G : Nat → Nat → Int32} : ∀ {k : Nat}, k ≤ 8 → (pck G k = 8 → ∀ j, j < k → can G j = false) ∧ (pck G k ≠ 8 → ∀ j, j < k → can G j = true → G 39 (pck G k) ≤ G 39 j)
  | 0, _ => ⟨fun _ j hj => by omega, fun h => absurd rfl h⟩
  | k + 1, hk => by
    obtain ⟨h1, h2⟩ := pck_min (G := G) (k := k) (by omega)
    simp only [pck]
    by_cases hc : can G k = true ∧ (pck G k = 8 ∨ ¬ G 39 (pck G k) ≤ G 39 k)
    · rw [if_pos hc]
      refine ⟨fun e => by omega, fun _ j hj hcj => ?_⟩
      by_cases e : j = k
      · subst e
        exact Int32.le_refl _
      · rcases hc.2 with h8 | hn
        · rw [h1 h8 j (by omega)] at hcj
          cases hcj
        · by_cases h8 : pck G k = 8
          · rw [h1 h8 j (by omega)] at hcj
            cases hcj
          · have h3 := h2 h8 j (by omega) hcj
            have h4 : G 39 k < G 39 (pck G k) := by rw [← Int32.not_le]; exact hn
            exact Int32.le_of_lt (Int32.lt_of_lt_of_le h4 h3)
    · rw [if_neg hc]
      refine ⟨fun e j hj => ?_, fun e j hj hcj => ?_⟩
      · by_cases ej : j = k
        · subst ej
          cases hh : can G j with
          | false => rfl
          | true => exact absurd ⟨hh, Or.inl e⟩ hc
        · exact h1 e j (by omega)
      · by_cases ej : j = k
        · subst ej
          by_cases hle : G 39 (pck G j) ≤ G 39 j
          · exact hle
          · exact absurd ⟨hcj, Or.inr hle⟩ hc
        · exact h2 e j (by omega) hcj
/-- the how manieth block it was -/
def od (G : Nat → Nat → Int32) (p : Nat) : Nat := (G 39 p).toNatClampNeg + 1
theorem od_of {t e p : Nat} {G : Nat → Nat → Int32} (hI : Iv e t G) (hp : p < 8) (h2 : G 21 p = nI 2) (ht : t < 2 ^ 30) : G 39 p = nI (od G p - 1) ∧ od G p ≤ t ∧ 1 ≤ od G p := by
  obtain ⟨h, h', -, -⟩ := hI.1.2.2.2.2.2.2.1 p hp
  obtain ⟨-, b, hb, -, hs, -⟩ := hI.2.2.2.2.2
  obtain ⟨s, hs1, hs2⟩ := hs p hp (h' h2)
  have : od G p = s + 1 := by
    unfold od
    rw [hs2, nI_clamp (by omega)]
  rw [this]
  exact ⟨hs2, by omega, by omega⟩
theorem od_inj {t e p q : Nat} {G : Nat → Nat → Int32} (hI : Iv e t G) (hp : p < 8) (hq : q < 8) (h2 : G 21 p = nI 2) (h2' : G 21 q = nI 2) (ht : t < 2 ^ 30) (h : od G p = od G q) : p = q := by
  by_cases e : p = q
  · exact e
  · obtain ⟨-, b, hb, -, hs, hd⟩ := hI.2.2.2.2.2
    have h1 := (hI.1.2.2.2.2.2.2.1 p hp).2.1 h2
    have h1' := (hI.1.2.2.2.2.2.2.1 q hq).2.1 h2'
    exact absurd (by rw [(od_of hI hp h2 ht).1, (od_of hI hq h2' ht).1, h]) (hd p q hp hq e h1 h1')
theorem sel_is {t p : Nat} {G : Nat → Nat → Int32} (hI : Iv 8 t G) (ht : t < 2 ^ 30) (hp : p < 8) (h2 : G 21 p = nI 2) (hc : 0 < chF G p) (hm : ∀ q, q < 8 → G 21 q = nI 2 → od G q < od G p → chF G q = 0) : sel G = p := by
  have hcan : can G p = true := by
    unfold can
    simp [h2, hc]
  obtain ⟨h1, h3⟩ := pck_min (G := G) (k := 8) (Nat.le_refl _)
  by_cases h8 : sel G = 8
  · rw [h1 h8 p hp] at hcan
    cases hcan
  · obtain ⟨q1, q2, q3⟩ := sel_ok h8
    have h4 := h3 h8 p hp hcan
    have e1 := od_of hI q1 q2 ht
    have e2 := od_of hI hp h2 ht
    change G 39 (sel G) ≤ G 39 p at h4
    rw [e1.1, e2.1, nI_leI (by omega) (by omega)] at h4
    have h5 : ¬ od G (sel G) < od G p := fun h => by
      have := hm _ q1 q2 h
      omega
    exact od_inj hI q1 hp q2 h2 ht (by omega)
theorem sel_no {G : Nat → Nat → Int32} (hm : ∀ q, q < 8 → G 21 q = nI 2 → chF G q = 0) : sel G = 8 := by
  by_cases h8 : sel G = 8
  · exact h8
  · obtain ⟨q1, q2, q3⟩ := sel_ok h8
    have := hm _ q1 q2
    omega
