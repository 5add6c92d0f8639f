/-! @82.c3 71.b3@ the class: calls tried: writing, reading a pipe -/
theorem l255 : ∀ i : Nat, i < 32 → 8 ≤ i → (255#32).getLsbD i = false := by decide
theorem by_n (b : Int64) {n : Nat} {s : Int64} {u : UInt64} (hn : n ≤ 56) (hs : (s.toBitVec.smod 64).toNat = n) (hu : u.toNat % 64 = n) : ((b.toUInt64 >>> u).toInt64.toInt32 &&& nI 255) = ((b >>> s).toInt32 &&& nI 255) := by
  rw [← Int32.toBitVec_inj]
  have e255 : (nI 255).toBitVec = 255#32 := by decide
  rw [Int32.toBitVec_and, Int32.toBitVec_and, e255]
  apply BitVec.eq_of_getLsbD_eq
  intro i hi
  rw [BitVec.getLsbD_and, BitVec.getLsbD_and]
  by_cases h8 : i < 8
  · congr 1
    have e1 : (b >>> s).toInt32.toBitVec.getLsbD i = b.toBitVec.getLsbD (n + i) := by
      rw [Int64.toBitVec_toInt32, Int64.toBitVec_shiftRight, BitVec.getLsbD_signExtend, if_pos (by omega)]
      unfold BitVec.sshiftRight'
      rw [hs, BitVec.getLsbD_sshiftRight, if_pos (by omega)]
      simp [hi]
      omega
    have e2 : (b.toUInt64 >>> u).toInt64.toInt32.toBitVec.getLsbD i = b.toBitVec.getLsbD (n + i) := by
      rw [Int64.toBitVec_toInt32, BitVec.getLsbD_signExtend, if_pos (by omega)]
      simp [hi, hu]
    rw [e1, e2]
  · rw [l255 i hi (by omega)]
    simp
theorem by_eq (b : Int64) {k : Nat} (hk : k < 8) : ((b.toUInt64 >>> ((nI 8 * nI k).toInt64.toUInt64 &&& Int64.toUInt64 63)).toInt64.toInt32 &&& nI 255) = byR b k := by
  unfold byR
  rcases (show k = 0 ∨ k = 1 ∨ k = 2 ∨ k = 3 ∨ k = 4 ∨ k = 5 ∨ k = 6 ∨ k = 7 by omega) with e | e | e | e | e | e | e | e <;> subst e
  · exact by_n b (n := 0) (by decide) (by decide) (by decide)
  · exact by_n b (n := 8) (by decide) (by decide) (by decide)
  · exact by_n b (n := 16) (by decide) (by decide) (by decide)
  · exact by_n b (n := 24) (by decide) (by decide) (by decide)
  · exact by_n b (n := 32) (by decide) (by decide) (by decide)
  · exact by_n b (n := 40) (by decide) (by decide) (by decide)
  · exact by_n b (n := 48) (by decide) (by decide) (by decide)
  · exact by_n b (n := 56) (by decide) (by decide) (by decide)
section A1S
variable {ns d x : Nat} {R : Nat → Nat → Nat → Option (Nat × Nat)} {Z A : Nat → Nat → Nat → Int32} {Y : Nat → Nat → Nat → Int64} {o : Int64} {c g : Nat → Int64} {G : Nat → Nat → Int32} {H : Nat → Nat → Int32} {h : Nat → Int64}
theorem c108 (hR : RS R) {p k : Nat} (hp : p < 8) (hk : k < 8) : pE ns (d + 1) 108 [pm_r 13 p, pm_i (nI k)] (mm x R Z Y o A c G g) (.inl (some (pm_i (byR (c p) k))), mm x R Z Y o A c G g) := by
  refine en rfl (b108_0 hR hp ?_)
  rw [by_eq _ hk]
theorem c124 (hR : RS R) (hr : Rel A c H h) {w : Nat} {v : Int32} (hw : H 20 28 = nI w) (hw2 : w < 2 ^ 31) : cX ns (d + 1) 124 [pm_r 3 0, pm_i v] x R Z Y o A c G g (.inl none) (pm_v (pm_v H 46 (w % 64) v) 20 28 (H 20 28 + nI 1)) h := by
  have e6 := r_wr hr
  have h1 : Rel (pm_u A 15 0 (w % 64) v) c (pm_v H 46 (w % 64) v) h := rl_u hr (tsc (by omega)) (by simp)
  refine cxi rfl (b124_0 hR (j1 := w % 64) (by rw [e6, hw, pk_rem hw2 (by decide) (by decide)]) (by omega) ⟨_, ?_, rfl⟩)
  rw [u_ne (by omega), e6]
  exact rl_u h1 twr (by simp)
theorem c104 (hR : RS R) (hr : Rel A c H h) {j m : Nat} {v : Int32} (hj : j < 6) (hm : H 43 j = nI m) (hm2 : m < 12) : cX ns (d + 1) 104 [pm_r 4 j, pm_i v] x R Z Y o A c G g (.inl none) (pm_v (pm_v H 42 (12 * j + m) v) 43 j (H 43 j + nI 1)) h := by
  have e := r_pm hr hj
  have h1 : Rel (pm_u A 5 j m v) c (pm_v H 42 (12 * j + m) v) h := rl_u hr (tpc hj hm2) (by simp)
  refine cxi rfl (t104_0 hR hj (fun k => ?_) (fun k => b104_12 hR hj (j1 := m) (by rw [e, hm]) hm2 ⟨_, ?_, rfl⟩))
  · rw [e, hm] at k
    exact absurd k (nI_ge hm2 (by decide))
  · rw [u_ne (by omega), e]
    exact rl_u h1 (tpm hj) (by simp)
theorem mn3 {n m : Nat} (hn : n ≤ 8) (hm : m ≤ 24) : (if nI 8 < if nI m < nI n then nI m else nI n then nI 8 else if nI m < nI n then nI m else nI n) = nI (min n m) := by
  have e : (if nI m < nI n then nI m else nI n) = nI (min n m) := by
    by_cases h : m < n
    · rw [if_pos (nI_lt h (by omega))]
      congr 1
      omega
    · rw [if_neg (nI_nlt (by omega) (by omega))]
      congr 1
      omega
  rw [e, if_neg (nI_nlt (by omega) (by omega))]
theorem c105 (hR : RS R) (hr : Rel A c H h) {j p n m : Nat} (hj : j < 6) (hp : p < 8) (hm : H 43 j = nI m) (hm2 : m ≤ 12) (hn : n ≤ 8) : cX ns (d + 1) 105 [pm_r 4 j, pm_i (nI n), pm_r 11 p] x R Z Y o A c G g (.inl (some (pm_i (nI (min n m))))) (pm_v (mv 42 (12 * j) 42 (12 * j + min n m) (mv 41 (8 * p) 42 (12 * j) H 0 (min n m)) 0 (m - min n m)) 43 j (H 43 j - nI (min n m))) h := by
  have e := r_pm hr hj
  refine cxi rfl (b105_0 hR hj hp ?_)
  rw [e, hm, mn3 hn (by omega)]
  generalize hq : min n m = q
  have hq8 : q ≤ 8 := by omega
  have hqm : q ≤ m := by omega
  have l2 : ∀ n' k (A : Nat → Nat → Nat → Int32) (K : Nat → Nat → Int32), q + k + n' = m → K 43 j = nI m → Rel A c K h → ∀ u1 u2, pW ns d 105 43 [some (pm_r 4 j), u1, u2, some (pm_i (nI q)), some (pm_i (nI (q + k)))] [] (mm x R Z Y o A c G g) (cQ x R Z Y o c G g (.inl (some (pm_i (nI q)))) (pm_v (mv 42 (12 * j) 42 (12 * j + q) K k n') 43 j (nI m - nI q)) h) := by
    intro n'
    induction n' with
    | zero =>
      intro k A K hk hK hr u1 u2
      have e := r_pm hr hj
      refine t105_43 hR hj (fun _ => ⟨_, ?_, rfl⟩) (fun k' => ?_)
      · rw [e, hK]
        exact rl_u hr (tpm hj) (by simp)
      · rw [e, hK] at k'
        exact absurd (nI_le (by omega) (by omega)) k'
    | succ n' ih =>
      intro k A K hk hK hr u1 u2
      have e := r_pm hr hj
      refine t105_43 hR hj (fun k' => ?_) (fun _ => b105_52 hR hj (j1 := q + k) (j2 := k) rfl (by omega) (by rw [pk_sub (by omega)]; congr 1; omega) (by omega) ?_)
      · rw [e, hK, nI_leI (by omega) (by omega)] at k'
        omega
      · rw [nI_s, r_pc hr hj (by omega)]
        simp only [mv]
        have hr' : Rel (pm_u A 5 j k (K 42 (12 * j + (q + k)))) c (pm_v K 42 (12 * j + k) (K 42 (12 * j + q + k))) h := by
          rw [Nat.add_assoc (12 * j) q k]
          exact rl_u hr (tpc hj (by omega)) (by simp)
        exact ih (k + 1) _ _ (by omega) (by rw [v_f (by decide)]; exact hK) hr' _ _
  have l1 : ∀ n' k (A : Nat → Nat → Nat → Int32) (K : Nat → Nat → Int32), k + n' = q → K 43 j = nI m → Rel A c K h → ∀ u1, pW ns d 105 17 [some (pm_r 4 j), u1, some (pm_r 11 p), some (pm_i (nI q)), some (pm_i (nI k))] [] (mm x R Z Y o A c G g) (cQ x R Z Y o c G g (.inl (some (pm_i (nI q)))) (pm_v (mv 42 (12 * j) 42 (12 * j + q) (mv 41 (8 * p) 42 (12 * j) K k n') 0 (m - q)) 43 j (nI m - nI q)) h) := by
    intro n'
    induction n' with
    | zero =>
      intro k A K hk hK hr u1
      have : k = q := by omega
      subst this
      refine t105_17 hR hj hp (fun _ => ?_) (fun k' => absurd (nI_le (Nat.le_refl _) (by omega)) k')
      exact l2 (m - k) 0 A K (by omega) hK hr _ _
    | succ n' ih =>
      intro k A K hk hK hr u1
      refine t105_17 hR hj hp (fun k' => ?_) (fun _ => b105_23 hR hj hp (j1 := k) (j2 := k) rfl (by omega) rfl (by omega) ?_)
      · rw [nI_leI (by omega) (by omega)] at k'
        omega
      · rw [nI_s, r_pc hr hj (by omega)]
        have hr' : Rel (pm_u A 11 p k (K 42 (12 * j + k))) c (pm_v K 41 (8 * p + k) (K 42 (12 * j + k))) h := rl_u hr (ttk hp (by omega)) (by simp)
        exact ih (k + 1) _ _ (by omega) (by rw [v_f (by decide)]; exact hK) hr' _
  exact l1 q 0 A H (by omega) hm hr _
/-- the call's file, as the class reads it -/
theorem c113f (hR : RS R) (hr : Rel A c H h) {p f : Nat} (hp : p < 8) (hf : f < 6) : pE ns (d + 1) 113 [pm_r 8 p, pm_i (nI f)] (mm x R Z Y o A c G g) (.inl (some (pm_i (H 32 (6 * p + f)))), mm x R Z Y o A c G g) := by
  refine en rfl (t113_0 hR hp (fun h'' => absurd h'' (nI_pos (by omega))) (fun _ h'' => absurd h'' (nI_ge hf (by decide))) (fun _ _ => b113_10 hR hp rfl hf ?_))
  rw [r_f hr hp hf]
theorem c103 (hR : RS R) (hr : Rel A c H h) {j : Nat} (hj : j < 6) : pE ns (d + 1) 103 [pm_r 4 j] (mm x R Z Y o A c G g) (.inl (some (pm_i (nI 12 - H 43 j))), mm x R Z Y o A c G g) := by
  refine en rfl (b103_0 hR hj ?_)
  rw [r_pm hr hj]
theorem c43 (hR : RS R) (hr : Rel A c H h) {p t : Nat} (hp : p < 8) (hc : Cl H p) (i10 : I10 H) (hw : ∃ w, w ≤ t ∧ H 20 28 = nI w) (ht : t < 2 ^ 30) (h34 : H 34 p = nI 2) : (chF H p = 0 → pE ns (d + 2) 43 [pm_r 0 0, pm_r 8 p] (mm x R Z Y o A c G g) (.inl (some (pm_i (-nI 9))), mm x R Z Y o A c G g)) ∧ (chF H p = 1 → cX ns (d + 2) 43 [pm_r 0 0, pm_r 8 p] x R Z Y o A c G g (.inl (some (pm_i (gvV H p)))) (gvF H (h p) p) h) := by
  obtain ⟨f, hf, e35, ⟨n, hn, e36, hn1⟩, hrd, hwr⟩ := hc
  have ecf : cfi H p = f := by rw [cfi, e35, nI_clamp (by omega)]
  have efv : fv H p = H 32 (6 * p + f) := by rw [fv, ecf]
  have ecm : cmN H p = n := by rw [cmN, e36, nI_clamp (by omega)]
  have hby : c p = h p := (hr.2.1 p hp).2.2.2.2.1 h34
  have nd := nd
  have hn1' : ¬ H 34 p = nI 1 := by grind
  have hch : chF H p = if fv H p = nI 1 ∨ opn H (fv H p - nI 1) = false ∨ ¬ nI 12 < H 43 (pix (fv H p)) + H 36 p then 1 else 0 := by
    simp only [chF, if_neg hn1', if_pos h34]
  have h113 := c113f (ns := ns) (d := d) (x := x) (Z := Z) (Y := Y) (o := o) (G := G) (g := g) hR hr hp hf
  rw [← efv, ← e35, ← r_k1 hr hp] at h113
  rcases hwr h34 with hv | ⟨j, hj, hv⟩
  · rw [← efv] at hv
    constructor
    · intro h0
      rw [hch, if_pos (Or.inl hv)] at h0
      cases h0
    · intro _
      obtain ⟨w, hw, e28⟩ := hw
      have e1 : gvV H p = nI n := by unfold gvV; rw [if_neg (by rintro ⟨h, -⟩; exact h hv), e36]
      have e2 : gvF H (h p) p = gsN H (h p) 0 n := by unfold gvF; rw [if_pos hv, ecm]
      rw [e1, e2]
      refine cxi rfl (b43_0 hR hp h113 (t43_13 hR hp (fun _ => ?_) (fun k => absurd hv k) (fun k => absurd hv k) (fun k => absurd hv k)))
      have k1 : ∀ n' k w (A : Nat → Nat → Nat → Int32) (K : Nat → Nat → Int32), k + n' = n → K 20 28 = nI w → w + n' < 2 ^ 31 → K 36 p = nI n → Rel A c K h → ∀ u3 u5, pW ns (d + 1) 43 22 [some (pm_r 0 0), some (pm_r 8 p), some (pm_r 13 p), some (pm_i u3), some (pm_i (nI k)), u5] [] (mm x R Z Y o A c G g) (cQ x R Z Y o c G g (.inl (some (pm_i (nI n)))) (gsN K (h p) k n') h) := by
        intro n'
        induction n' with
        | zero =>
          intro k w A K hk e28 hw e36 hr u3 u5
          refine t43_22 hR hp (fun _ => ?_) (fun k' => ?_)
          · rw [r_k2 hr hp, e36]
            exact ⟨A, hr, rfl⟩
          · rw [r_k2 hr hp, e36] at k'
            exact absurd (nI_le (by omega) (by omega)) k'
        | succ n' ih =>
          intro k w A K hk e28 hw e36 hr u3 u5
          have ecl : (K 20 28).toNatClampNeg = w := by rw [e28, nI_clamp (by omega)]
          obtain ⟨A1', hr1, hE1⟩ := c124 (ns := ns) (d := d) (x := x) (Z := Z) (Y := Y) (o := o) (G := G) (g := g) (v := byR (c p) k) hR hr e28 (by omega)
          refine t43_22 hR hp (fun k' => ?_) (fun _ => b43_31 hR hp (c108 hR hp (by omega)) (b43_41 hR hp hE1 (b43_44 hR hp ?_)))
          · rw [r_k2 hr hp, e36, nI_leI (by omega) (by omega)] at k'
            omega
          · rw [nI_s]
            simp only [gsN]
            rw [ecl, ← hby]
            rw [← hby] at ih
            exact ih (k + 1) (w + 1) A1' _ (by omega) (by rw [v_eq, e28, nI_s]) (by omega) (by rw [v_f (by decide), v_f (by decide)]; exact e36) hr1 _ _
      exact k1 n 0 w A H (by omega) e28 (by omega) e36 hr _ _
  · rw [← efv] at hv
    have hne : ¬ fv H p = nI 1 := by
      rw [hv]
      intro h'
      have := nI_inj h' (by omega) (by decide)
      omega
    obtain ⟨ei, ep⟩ := pix_ix (v := 3 + 2 * j) hj (Or.inr rfl)
    have epx : pix (fv H p) = j := by rw [hv]; exact ep
    have ei' : fv H p / nI 2 - nI 1 = nI j := by rw [hv]; exact ei
    have eop : fv H p - nI 1 = nI (2 + 2 * j) := by rw [hv, pk_sub (by omega)]; congr 1; omega
    obtain ⟨m, hm, e43⟩ := i10 j hj
    have ecmp : nI 12 < H 43 (pix (fv H p)) + H 36 p ↔ 12 < m + n := by rw [epx, e43, e36, nI_add, nI_ltI (by decide) (by omega)]
    have hbeg : ∀ Q : pm_O × pm_M → Prop, (opn H (nI (2 + 2 * j)) = false → Q (.inl (some (pm_i (-nI 6))), mm x R Z Y o A c G g)) → (opn H (nI (2 + 2 * j)) = true → ¬ m + n ≤ 12 → Q (.inl (some (pm_i (-nI 9))), mm x R Z Y o A c G g)) → (opn H (nI (2 + 2 * j)) = true → m + n ≤ 12 → ∀ v, pW ns (d + 1) 43 115 [some (pm_r 0 0), some (pm_r 8 p), some (pm_r 13 p), some (pm_i v), some (pm_i (nI j)), some (pm_i (nI 0))] [] (mm x R Z Y o A c G g) Q) → pW ns (d + 1) 43 0 (pm_ent [pm_r 0 0, pm_r 8 p] ++ List.replicate (pm_maxL 43 - (pm_ent [pm_r 0 0, pm_r 8 p]).length) none) [] (mm x R Z Y o A c G g) Q := by
      intro Q q1 q2 q3
      refine b43_0 hR hp h113 (t43_13 hR hp (fun k => absurd k hne) (fun _ k => ?_) (fun _ _ _ => ?_) (fun _ _ k => ?_))
      · rw [ei'] at k
        exact absurd k (nI_pos (by omega))
      · rw [ei']
        refine b43_76 hR hp (by rw [nI_m, nI_add]; exact c28 (d := d) hR hr) (t43_86 hR hp (fun k => q1 (bI_0.mp k)) (fun k => b43_92 hR hp rfl hj (c103 hR hr hj) (t43_102 hR hp (fun k2 => ?_) (fun k2 => ?_))))
        · rw [r_k2 hr hp, e36, e43, pk_sub (by omega), nI_leI (by omega) (by omega)] at k2
          exact q3 (bI_n0.mp k) (by omega) _
        · rw [r_k2 hr hp, e36, e43, pk_sub (by omega), nI_leI (by omega) (by omega)] at k2
          exact q2 (bI_n0.mp k) (by omega)
      · rw [ei'] at k
        exact absurd (nI_lt hj (by decide)) k
    constructor
    · intro hc0
      rw [hch] at hc0
      have hc0' : ¬ (fv H p = nI 1 ∨ opn H (fv H p - nI 1) = false ∨ ¬ nI 12 < H 43 (pix (fv H p)) + H 36 p) := by
        intro e
        rw [if_pos e] at hc0
        cases hc0
      rw [eop, ecmp] at hc0'
      refine en rfl (hbeg _ (fun k => absurd (Or.inr (Or.inl k)) hc0') (fun _ _ => rfl) (fun _ k => absurd (Or.inr (Or.inr (by omega))) hc0'))
    · intro hc1
      refine cxi rfl (hbeg _ (fun k => ?_) (fun k k2 => ?_) (fun k k2 v => ?_))
      · have e1 : gvV H p = -nI 6 := by unfold gvV; rw [if_pos ⟨hne, by rw [eop]; exact k⟩]
        have e2 : gvF H (h p) p = H := by unfold gvF; rw [if_neg hne, if_pos (by rw [eop]; exact k)]
        rw [e1, e2]
        exact ⟨A, hr, rfl⟩
      · rw [hch, if_neg (by rw [eop, ecmp]; rintro (e | e | e); exact hne e; rw [k] at e; cases e; omega)] at hc1
        cases hc1
      · have ho : ¬ opn H (fv H p - nI 1) = false := by rw [eop, k]; decide
        have e1 : gvV H p = nI n := by unfold gvV; rw [if_neg (by rintro ⟨-, h'⟩; exact ho h'), e36]
        have e2 : gvF H (h p) p = gpN H j (h p) 0 n := by unfold gvF; rw [if_neg hne, if_neg ho, ecm, epx]
        rw [e1, e2]
        have k1 : ∀ n' k m (A : Nat → Nat → Nat → Int32) (K : Nat → Nat → Int32), k + n' = n → K 43 j = nI m → m + n' ≤ 12 → K 36 p = nI n → Rel A c K h → ∀ u3, pW ns (d + 1) 43 115 [some (pm_r 0 0), some (pm_r 8 p), some (pm_r 13 p), some (pm_i u3), some (pm_i (nI j)), some (pm_i (nI k))] [] (mm x R Z Y o A c G g) (cQ x R Z Y o c G g (.inl (some (pm_i (nI n)))) (gpN K j (h p) k n') h) := by
          intro n'
          induction n' with
          | zero =>
            intro k m A K hk e43 hm e36 hr u3
            refine t43_115 hR hp (fun _ => ?_) (fun k' => ?_)
            · rw [r_k2 hr hp, e36]
              exact ⟨A, hr, rfl⟩
            · rw [r_k2 hr hp, e36] at k'
              exact absurd (nI_le (by omega) (by omega)) k'
          | succ n' ih =>
            intro k m A K hk e43 hm e36 hr u3
            have ecl : (K 43 j).toNatClampNeg = m := by rw [e43, nI_clamp (by omega)]
            obtain ⟨A1', hr1, hE1⟩ := c104 (ns := ns) (d := d) (x := x) (Z := Z) (Y := Y) (o := o) (G := G) (g := g) (v := byR (c p) k) hR hr hj e43 (by omega)
            refine t43_115 hR hp (fun k' => ?_) (fun _ => b43_124 hR hp rfl hj (c108 hR hp (by omega)) (b43_137 hR hp hj hE1 (b43_140 hR hp ?_)))
            · rw [r_k2 hr hp, e36, nI_leI (by omega) (by omega)] at k'
              omega
            · rw [nI_s]
              simp only [gpN]
              rw [ecl, ← hby]
              rw [← hby] at ih
              exact ih (k + 1) (m + 1) A1' _ (by omega) (by rw [v_eq, e43, nI_s]) (by omega) (by rw [v_f (by decide), v_f (by decide)]; exact e36) hr1 _
        exact k1 n 0 m A H (by omega) e43 (by omega) e36 hr _
end A1S
