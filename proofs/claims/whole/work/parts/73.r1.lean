/-! @72.base 71.b4@ the reference: small methods -/
def lv (G : Nat → Nat → Int32) (p : Nat) : Bool := !decide (G 21 p ≤ 0) && !decide (nI 4 ≤ G 21 p)
def pa (G : Nat → Nat → Int32) (p : Nat) : Nat := (G 22 p).toNatClampNeg
/-- the file value v stands somewhere -/
def opn (G : Nat → Nat → Int32) (v : Int32) : Bool := ex (fun k => decide (G 32 k = v)) 48
def isp (G : Nat → Nat → Int32) (k : Nat) : Bool := opn G (nI (2 + 2 * k)) || opn G (nI (3 + 2 * k))
def ispt (G : Nat → Nat → Int32) (q : Int32) : Bool := ex (fun p => lv G p && decide (G 23 p = q)) 8
def outs (G : Nat → Nat → Int32) (q : Int32) (p : Nat) : Bool := decide (1 ≤ p) && (lv G p && (decide (G 23 p = q) && (lv G (pa G p) && !decide (G 23 (pa G p) = q))))
def orph (G : Nat → Nat → Int32) (q : Int32) : Bool := !ex (outs G q) 8
def finF (G : Nat → Nat → Int32) (p : Nat) (v : Int32) : Nat → Nat → Int32 := pm_v (pm_v (pm_v G 26 p v) 21 p (nI 1)) 34 p (nI 0)
def hearF (G : Nat → Nat → Int32) (p : Nat) (s : Int32) : Nat → Nat → Int32 :=
  if G 21 p = nI 2 then finF (pm_v (pm_v G 40 (16 * p + (G 28 p).toNatClampNeg % 16) s) 28 p (G 28 p + nI 1)) p (-nI 4) else pm_v (pm_v G 40 (16 * p + (G 28 p).toNatClampNeg % 16) s) 28 p (G 28 p + nI 1)
section R1
variable {ns d x : Nat} {R : Nat → Nat → Nat → Option (Nat × Nat)} {Z A : Nat → Nat → Nat → Int32} {Y : Nat → Nat → Nat → Int64} {o : Int64} {c g : Nat → Int64} {G : Nat → Nat → Int32}
theorem r46 (hR : RS R) : pE ns (d + 1) 46 [pm_r 20 0] (mm x R Z Y o A c G g) (.inl (some (pm_i (G 20 0))), mm x R Z Y o A c G g) := en rfl (b46_0 hR rfl)
theorem r47 (hR : RS R) {p : Int32} : pE ns (d + 1) 47 [pm_r 20 0, pm_i p] (mm x R Z Y o A c G g) (.inl (some (pm_i (bI (!decide (p < 0) && !decide (nI 8 ≤ p))))), mm x R Z Y o A c G g) := by
  refine en rfl (t47_0 hR (fun h => ?_) (fun h1 h2 => ?_) (fun h1 h2 => ?_))
  · simp [h, bI_f]
  · simp [h1, h2, bI_f]
  · simp [h1, h2, bI_t]
theorem r48 (hR : RS R) {p : Nat} (hp : p < 8) : pE ns (d + 1) 48 [pm_r 20 0, pm_i (nI p)] (mm x R Z Y o A c G g) (.inl (some (pm_i (bI (lv G p)))), mm x R Z Y o A c G g) := by
  refine en rfl (t48_0 hR rfl hp (fun h => ?_) (fun h1 h2 => ?_) (fun h1 h2 => ?_))
  · simp [lv, h, bI_f]
  · simp [lv, h1, h2, bI_f]
  · simp [lv, h1, h2, bI_t]
theorem r49 (hR : RS R) {v : Int32} : pE ns (d + 1) 49 [pm_r 20 0, pm_i v] (mm x R Z Y o A c G g) (.inl (some (pm_i (nI (ct (fun k => decide (G 32 k = v)) 48)))), mm x R Z Y o A c G g) := by
  refine en rfl (b49_0 hR ?_)
  refine dn (N := 48) (fun k => pW ns d 49 4 [some (pm_r 20 0), some (pm_i v), some (pm_i (nI (ct (fun k => decide (G 32 k = v)) k))), some (pm_i (nI k))] [] (mm x R Z Y o A c G g) _) ?_ ?_ 0 (by decide)
  · exact t49_4 hR (fun _ => rfl) (fun h => absurd (by decide) h)
  · intro k hk ih
    refine t49_4 hR (fun h => absurd h (nI_ge hk (by decide))) (fun _ => b49_10 hR rfl hk (fun h => b49_21 hR ?_) (fun h => b49_25 hR ?_))
    · rw [nI_s, nI_s]
      simpa [ct, h] using ih
    · rw [nI_z, nI_s]
      simpa [ct, h] using ih
theorem ends0 {v : Int32} : nI (ct (fun k => decide (G 32 k = v)) 48) = 0 ↔ opn G v = false := by
  have h := ct_le (fun k => decide (G 32 k = v)) 48
  rw [← nI_0, nI_eq (by omega) (by decide), ct_ex]
  rfl
theorem r50 (hR : RS R) {k : Nat} : pE ns (d + 2) 50 [pm_r 20 0, pm_i (nI k)] (mm x R Z Y o A c G g) (.inl (some (pm_i (bI (isp G k)))), mm x R Z Y o A c G g) := by
  refine en rfl (b50_0 hR (r49 hR) (b50_9 hR (r49 hR) ?_))
  rw [nI_m, nI_add, nI_add]
  have h1 := ct_le (fun k' => decide (G 32 k' = nI (2 + 2 * k))) 48
  have h2 := ct_le (fun k' => decide (G 32 k' = nI (3 + 2 * k))) 48
  refine t50_18 hR (fun h => ?_) (fun h => ?_)
  · rw [nI_add, ← nI_0, nI_leI (by omega) (by decide)] at h
    have e1 : opn G (nI (2 + 2 * k)) = false := ct_ex.mp (by omega)
    have e2 : opn G (nI (3 + 2 * k)) = false := ct_ex.mp (by omega)
    simp [isp, e1, e2, bI_f]
  · rw [nI_add, ← nI_0, nI_leI (by omega) (by decide)] at h
    have e : isp G k = true := by
      cases e1 : opn G (nI (2 + 2 * k)) with
      | true => simp [isp, e1]
      | false =>
        cases e2 : opn G (nI (3 + 2 * k)) with
        | true => simp [isp, e2]
        | false =>
          have := ct_ex.mpr e1
          have := ct_ex.mpr e2
          omega
    rw [e]
    rfl
theorem r51 (hR : RS R) : pE ns (d + 3) 51 [pm_r 20 0] (mm x R Z Y o A c G g) (.inl (some (pm_i (nI (ct (isp G) 6)))), mm x R Z Y o A c G g) := by
  refine en rfl (b51_0 hR ?_)
  refine dn (N := 6) (fun k => pW ns (d + 2) 51 4 [some (pm_r 20 0), some (pm_i (nI (ct (isp G) k))), some (pm_i (nI k))] [] (mm x R Z Y o A c G g) _) ?_ ?_ 0 (by decide)
  · exact t51_4 hR (fun _ => rfl) (fun h => absurd (by decide) h)
  · intro k hk ih
    refine t51_4 hR (fun h => absurd h (nI_ge hk (by decide))) (fun _ => b51_10 hR (r50 hR) (t51_16 hR (fun h => ?_) (fun h => ?_)))
    · rw [nI_z, nI_s]
      simpa [ct, bI_0.mp h] using ih
    · rw [nI_s, nI_s]
      simpa [ct, bI_n0.mp h] using ih
theorem r52 (hR : RS R) {p : Nat} (hp : p < 8) {f : Int32} : pE ns (d + 1) 52 [pm_r 20 0, pm_i (nI p), pm_i f] (mm x R Z Y o A c G g) (.inl (some (pm_i (if ¬ f < 0 ∧ f ≤ nI 5 then G 32 (6 * p + f.toNatClampNeg) else -nI 1))), mm x R Z Y o A c G g) := by
  refine en rfl (t52_0 hR (fun h => ?_) (fun h1 h2 => ?_) (fun h1 h2 => ?_))
  · simp [h]
  · obtain ⟨j, hj, rfl⟩ := nI_of h1
    have hj5 := (nI_leI hj (by decide)).mp h2
    refine b52_13 hR (j1 := 6 * p + j) (by rw [nI_m, nI_add]) (by omega) ?_
    simp [h1, h2, nI_clamp hj]
  · simp [h2]
theorem r53 (hR : RS R) {q : Int32} : pE ns (d + 2) 53 [pm_r 20 0, pm_i q] (mm x R Z Y o A c G g) (.inl (some (pm_i (bI (ispt G q)))), mm x R Z Y o A c G g) := by
  refine en rfl (b53_0 hR ?_)
  refine dn (N := 8) (fun k => pW ns (d + 1) 53 4 [some (pm_r 20 0), some (pm_i q), some (pm_i (bI (ex (fun p => lv G p && decide (G 23 p = q)) k))), some (pm_i (nI k))] [] (mm x R Z Y o A c G g) _) ?_ ?_ 0 (by decide)
  · exact t53_4 hR (fun _ => b53_44 hR bI_z rfl) (fun h => absurd (by decide) h) (fun h => absurd (by decide) h)
  · intro k hk ih
    refine t53_4 hR (fun h => absurd h (nI_ge hk (by decide))) (fun _ h0 => b53_14 hR (r48 hR hk) (t53_19 hR (fun h => ?_) (fun h => b53_22 hR rfl hk (fun h2 => b53_32 hR ?_) (fun h2 => b53_36 hR ?_)))) (fun _ h0 => ?_)
    · rw [nI_s, ← bI_f]
      simpa [ex, bI_0.mp h0, bI_0.mp h] using ih
    · rw [nI_s, ← bI_t]
      simpa [ex, bI_0.mp h0, bI_n0.mp h, h2] using ih
    · rw [nI_s, ← bI_f]
      simpa [ex, bI_0.mp h0, bI_n0.mp h, h2] using ih
    · rw [nI_s, ← bI_t]
      simpa [ex, bI_n0.mp h0] using ih
theorem r54 (hR : RS R) {q : Int32} (hpa : ∀ p, 1 ≤ p → p < 8 → lv G p = true → ∃ k, k < 8 ∧ G 22 p = nI k) : pE ns (d + 2) 54 [pm_r 20 0, pm_i q] (mm x R Z Y o A c G g) (.inl (some (pm_i (bI (orph G q)))), mm x R Z Y o A c G g) := by
  refine en rfl (b54_0 hR ?_)
  have key : ∀ k, k ≤ 8 → 1 ≤ k → ∀ u, pW ns (d + 1) 54 4 [some (pm_r 20 0), some (pm_i q), some (pm_i (bI (!ex (outs G q) k))), some (pm_i (nI k)), u] [] (mm x R Z Y o A c G g) (fun r' => r' = (.inl (some (pm_i (bI (orph G q)))), mm x R Z Y o A c G g)) := by
    refine dn (N := 8) (fun k => 1 ≤ k → ∀ u, _) ?_ ?_
    · intro _ u
      exact t54_4 hR (fun _ => b54_84 hR bI_z rfl) (fun h => absurd (by decide) h)
    · intro k hk ih h1 u
      have ih := ih (by omega)
      have hno : outs G q k = false → ∀ u, pW ns (d + 1) 54 4 [some (pm_r 20 0), some (pm_i q), some (pm_i (bI (!ex (outs G q) k))), some (pm_i (nI (k + 1))), u] [] (mm x R Z Y o A c G g) (fun r' => r' = (.inl (some (pm_i (bI (orph G q)))), mm x R Z Y o A c G g)) := by
        intro ho u
        simpa [ex, ho] using ih u
      refine t54_4 hR (fun h => absurd h (nI_ge hk (by decide))) (fun _ => b54_10 hR (r48 hR hk) (t54_15 hR (fun h h0 => ?_) (fun h h0 => ?_) (fun h => ?_)))
      · rw [nI_s, ← bI_f, ← bI_0.mp h0]
        exact hno (by simp [outs, bI_0.mp h]) _
      · rw [nI_s, ← bI_t, ← bI_n0.mp h0]
        exact hno (by simp [outs, bI_0.mp h]) _
      · have hl := bI_n0.mp h
        obtain ⟨j, hj, hpj⟩ := hpa k h1 hk hl
        have hpk : pa G k = j := by rw [pa, hpj, nI_clamp (by omega)]
        refine b54_18 hR rfl hk (fun h2 => b54_28 hR rfl hk (by rw [hpj]; exact r48 hR hj) (t54_38 hR (fun h3 h0 => ?_) (fun h3 h0 => ?_) (fun h3 => b54_41 hR rfl hk hpj hj (fun h4 => ?_) (fun h4 => ?_)))) (fun h2 => ?_)
        · rw [nI_s, ← bI_f, ← bI_0.mp h0]
          exact hno (by simp [outs, hpk, bI_0.mp h3]) _
        · rw [nI_s, ← bI_t, ← bI_n0.mp h0]
          exact hno (by simp [outs, hpk, bI_0.mp h3]) _
        · have hh := hno (by simp [outs, hpk, h4])
          refine t54_60 hR (fun h0 => ?_) (fun h0 => ?_)
          · rw [nI_s, ← bI_f, ← bI_0.mp h0]; exact hh _
          · rw [nI_s, ← bI_t, ← bI_n0.mp h0]; exact hh _
        · have ho : outs G q k = true := by simp [outs, hpk, h1, hl, h2, bI_n0.mp h3, h4]
          have hh : ∀ u, pW ns (d + 1) 54 4 [some (pm_r 20 0), some (pm_i q), some (pm_i (nI 0)), some (pm_i (nI (k + 1))), u] [] (mm x R Z Y o A c G g) (fun r' => r' = (.inl (some (pm_i (bI (orph G q)))), mm x R Z Y o A c G g)) := by
            intro u
            simpa [ex, ho, bI_f] using ih u
          refine t54_56 hR (fun h0 => ?_) (fun h0 => ?_)
          · rw [nI_s]; exact hh _
          · rw [nI_s]; exact hh _
        · have hh := hno (by simp [outs, h2])
          refine t54_60 hR (fun h0 => ?_) (fun h0 => ?_)
          · rw [nI_s, ← bI_f, ← bI_0.mp h0]; exact hh _
          · rw [nI_s, ← bI_t, ← bI_n0.mp h0]; exact hh _
  exact key 1 (by decide) (by decide) _
theorem r55 (hR : RS R) {p : Nat} (hp : p < 8) {v : Int32} : pE ns (d + 1) 55 [pm_r 20 0, pm_i (nI p), pm_i v] (mm x R Z Y o A c G g) (.inl none, mm x R Z Y o A c (finF G p v) g) := en rfl (b55_0 hR rfl hp rfl)
theorem r56 (hR : RS R) {p h : Nat} (hp : p < 8) {s : Int32} (hh : G 28 p = nI h) (hl : h < 2 ^ 31) : pE ns (d + 2) 56 [pm_r 20 0, pm_i (nI p), pm_i s] (mm x R Z Y o A c G g) (.inl none, mm x R Z Y o A c (hearF G p s) g) := by
  have e : (G 28 p).toNatClampNeg = h := by rw [hh, nI_clamp hl]
  refine en rfl (t56_0 hR (j2 := 16 * p + h % 16) rfl hp ?_ (by omega) (fun h1 => b56_40 hR (r55 hR hp) (b56_47 hR ?_)) (fun h1 => ?_))
  · rw [hh, pk_rem hl (by decide) (by decide), nI_m, nI_add]
  all_goals
    rw [v_f (by decide)] at h1
    rw [v_f (by decide)] at h1
    simp only [hearF, e, h1, if_true, if_false]
    rw [v_f (by decide)]
end R1
