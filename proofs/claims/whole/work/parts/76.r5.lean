/-! @76.r4@ the reference: calls are done -/
/-- the places a + k, .. of the family f become what the places b + k, .. of f2 are, one after the other, n of them -/
def mv (f a f2 b : Nat) (G : Nat → Nat → Int32) (k : Nat) : Nat → Nat → Nat → Int32
  | 0 => G
  | n + 1 => mv f a f2 b (pm_v G f (a + k) (G f2 (b + k))) (k + 1) n
def mnI (x y : Int32) : Int32 := if y ≤ x then y else x
def tlN (G : Nat → Nat → Int32) (p : Nat) : Nat := (mnI (G 36 p) (G 45 0)).toNatClampNeg
def tl1 (G : Nat → Nat → Int32) (p : Nat) : Nat → Nat → Int32 := pm_v (pm_v (mv 44 0 44 (tlN G p) (mv 41 (8 * p) 44 0 G 0 (tlN G p)) 0 (24 - tlN G p)) 45 0 (G 45 0 - nI (tlN G p))) 27 p (nI (tlN G p))
def tlF (G : Nat → Nat → Int32) (p : Nat) : Nat → Nat → Int32 :=
  if G 45 0 - nI (tlN G p) ≤ 0 then mv 45 0 45 1 (pm_v (tl1 G p) 20 26 (G 20 26 - nI 1)) 0 ((G 20 26).toNatClampNeg - 1) else tl1 G p
def tbN (G : Nat → Nat → Int32) (p j : Nat) : Nat := (mnI (G 36 p) (G 43 j)).toNatClampNeg
def tbF (G : Nat → Nat → Int32) (p j : Nat) : Nat → Nat → Int32 :=
  pm_v (pm_v (mv 42 (12 * j) 42 (12 * j + tbN G p j) (mv 41 (8 * p) 42 (12 * j) G 0 (tbN G p j)) 0 ((G 43 j).toNatClampNeg - tbN G p j)) 43 j (G 43 j - nI (tbN G p j))) 27 p (nI (tbN G p j))
def byR (b : Int64) (k : Nat) : Int32 := (b >>> ((nI 8 * nI k).toInt64 &&& 63)).toInt32 &&& nI 255
def gsN (G : Nat → Nat → Int32) (b : Int64) (k : Nat) : Nat → Nat → Nat → Int32
  | 0 => G
  | n + 1 => gsN (pm_v (pm_v G 46 ((G 20 28).toNatClampNeg % 64) (byR b k)) 20 28 (G 20 28 + nI 1)) b (k + 1) n
def gpN (G : Nat → Nat → Int32) (j : Nat) (b : Int64) (k : Nat) : Nat → Nat → Nat → Int32
  | 0 => G
  | n + 1 => gpN (pm_v (pm_v G 42 (12 * j + (G 43 j).toNatClampNeg) (byR b k)) 43 j (G 43 j + nI 1)) j b (k + 1) n
def cmN (G : Nat → Nat → Int32) (p : Nat) : Nat := (G 36 p).toNatClampNeg
theorem mv_f {f a f2 b : Nat} : ∀ {n k : Nat} {G : Nat → Nat → Int32} {f' k' : Nat}, f' ≠ f → mv f a f2 b G k n f' k' = G f' k'
  | 0, k, G, f', k', h => rfl
  | n + 1, k, G, f', k', h => by
    simp only [mv]
    rw [mv_f h, v_f h]
section R5
variable {ns d x : Nat} {R : Nat → Nat → Nat → Option (Nat × Nat)} {Z A : Nat → Nat → Nat → Int32} {Y : Nat → Nat → Nat → Int64} {o : Int64} {c g : Nat → Int64} {G : Nat → Nat → Int32}
theorem mnI_of {a b : Nat} (ha : a < 2 ^ 31) (hb : b < 2 ^ 31) : mnI (nI a) (nI b) = nI (min a b) := by
  unfold mnI
  split
  · rename_i h
    rw [nI_leI hb ha] at h
    rw [Nat.min_eq_right h]
  · rename_i h
    rw [nI_leI hb ha] at h
    rw [Nat.min_eq_left (by omega)]
theorem r67 (hR : RS R) {p r m n : Nat} (hp : p < 8) (hr : G 20 26 = nI r) (hr1 : 1 ≤ r) (hr8 : r ≤ 8) (hm : G 45 0 = nI m) (hm24 : m ≤ 24) (hn : G 36 p = nI n) (hn8 : n ≤ 8) : pE ns (d + 1) 67 [pm_r 20 0, pm_i (nI p)] (mm x R Z Y o A c G g) (.inl (some (pm_i (nI (tlN G p)))), mm x R Z Y o A c (tlF G p) g) := by
  have hN : tlN G p = min n m := by
    unfold tlN
    rw [hn, hm, mnI_of (by omega) (by omega), nI_clamp (by omega)]
  have hst : mnI (G 36 p) (G 45 0) = nI (tlN G p) := by rw [hN, hn, hm, mnI_of (by omega) (by omega)]
  obtain ⟨N, hNe⟩ : ∃ N, N = tlN G p := ⟨_, rfl⟩
  have hN8 : N ≤ 8 := by omega
  have hNm : N ≤ m := by omega
  refine en rfl ?_
  have k4 : ∀ k n' (G' : Nat → Nat → Int32), k + n' = r - 1 → G' 20 26 = nI (r - 1) → ∀ u, pW ns d 67 129 [some (pm_r 20 0), u, some (pm_i (nI N)), some (pm_i (nI k))] [] (mm x R Z Y o A c G' g) (fun r' => r' = (.inl (some (pm_i (nI N))), mm x R Z Y o A c (mv 45 0 45 1 G' k n') g)) := by
    intro k n'
    induction n' generalizing k with
    | zero =>
      intro G' hk h26 u
      refine t67_129 hR (fun _ => rfl) (fun h => ?_)
      rw [h26, nI_leI (by omega) (by omega)] at h
      omega
    | succ n' ih =>
      intro G' hk h26 u
      refine t67_129 hR (fun h => ?_) (fun _ => b67_137 hR (j1 := 1 + k) (j2 := 0 + k) (by rw [nI_add, Nat.add_comm]) (by omega) (by rw [Nat.zero_add]) (by omega) ?_)
      · rw [h26, nI_leI (by omega) (by omega)] at h
        omega
      · rw [nI_s]
        simp only [mv]
        exact ih (k + 1) _ (by omega) (by rw [v_f (by decide)]; exact h26) _
  have k3 : ∀ (G' : Nat → Nat → Int32), G' 45 0 = G 45 0 → G' 20 26 = G 20 26 → ∀ u, pW ns d 67 89 [some (pm_r 20 0), some (pm_i (nI p)), some (pm_i (nI N)), u] [] (mm x R Z Y o A c G' g) (fun r' => r' = (.inl (some (pm_i (nI N))), mm x R Z Y o A c (if G 45 0 - nI N ≤ 0 then mv 45 0 45 1 (pm_v (pm_v (pm_v G' 45 0 (G 45 0 - nI N)) 27 p (nI N)) 20 26 (G 20 26 - nI 1)) 0 ((G 20 26).toNatClampNeg - 1) else pm_v (pm_v G' 45 0 (G 45 0 - nI N)) 27 p (nI N)) g)) := by
    intro G' e45 e26 u
    refine b67_89 hR rfl hp (fun h => b67_117 hR ?_) (fun h => b67_115 hR ?_)
    · rw [v_f (by decide), v_eq, e45] at h
      rw [if_pos h, v_f (by decide), v_f (by decide), e45, e26, hr, nI_clamp (by omega)]
      have := k4 0 (r - 1) (pm_v (pm_v (pm_v G' 45 0 (G 45 0 - nI N)) 27 p (nI N)) 20 26 (nI r - nI 1)) (by omega) (by rw [v_eq, pk_sub hr1])
      exact this _
    · rw [v_f (by decide), v_eq, e45] at h
      rw [if_neg h, e45]
  have k2 : ∀ k n' (G' : Nat → Nat → Int32), k + n' = 24 - N → G' 45 0 = G 45 0 → G' 20 26 = G 20 26 → pW ns d 67 63 [some (pm_r 20 0), some (pm_i (nI p)), some (pm_i (nI N)), some (pm_i (nI (N + k)))] [] (mm x R Z Y o A c G' g) (fun r' => r' = (.inl (some (pm_i (nI N))), mm x R Z Y o A c (if G 45 0 - nI N ≤ 0 then mv 45 0 45 1 (pm_v (pm_v (pm_v (mv 44 0 44 N G' k n') 45 0 (G 45 0 - nI N)) 27 p (nI N)) 20 26 (G 20 26 - nI 1)) 0 ((G 20 26).toNatClampNeg - 1) else pm_v (pm_v (mv 44 0 44 N G' k n') 45 0 (G 45 0 - nI N)) 27 p (nI N)) g)) := by
    intro k n'
    induction n' generalizing k with
    | zero =>
      intro G' hk e45 e26
      refine t67_63 hR (fun _ => k3 G' e45 e26 _) (fun h => ?_)
      rw [nI_leI (by decide) (by omega)] at h
      omega
    | succ n' ih =>
      intro G' hk e45 e26
      refine t67_63 hR (fun h => ?_) (fun _ => b67_69 hR (j1 := N + k) (j2 := 0 + k) rfl (by omega) (by rw [pk_sub (by omega)]; congr 1; omega) (by omega) ?_)
      · rw [nI_leI (by decide) (by omega)] at h
        omega
      · rw [nI_s]
        simp only [mv]
        exact ih (k + 1) _ (by omega) (by rw [v_f (by decide)]; exact e45) (by rw [v_f (by decide)]; exact e26)
  have k1 : ∀ k n' (G' : Nat → Nat → Int32), k + n' = N → G' 45 0 = G 45 0 → G' 20 26 = G 20 26 → pW ns d 67 33 [some (pm_r 20 0), some (pm_i (nI p)), some (pm_i (nI N)), some (pm_i (nI k))] [] (mm x R Z Y o A c G' g) (fun r' => r' = (.inl (some (pm_i (nI N))), mm x R Z Y o A c (if G 45 0 - nI N ≤ 0 then mv 45 0 45 1 (pm_v (pm_v (pm_v (mv 44 0 44 N (mv 41 (8 * p) 44 0 G' k n') 0 (24 - N)) 45 0 (G 45 0 - nI N)) 27 p (nI N)) 20 26 (G 20 26 - nI 1)) 0 ((G 20 26).toNatClampNeg - 1) else pm_v (pm_v (mv 44 0 44 N (mv 41 (8 * p) 44 0 G' k n') 0 (24 - N)) 45 0 (G 45 0 - nI N)) 27 p (nI N)) g)) := by
    intro k n'
    induction n' generalizing k with
    | zero =>
      intro G' hk e45 e26
      refine t67_33 hR (fun _ => k2 0 (24 - N) G' (by omega) e45 e26) (fun h => ?_)
      rw [nI_leI (by omega) (by omega)] at h
      omega
    | succ n' ih =>
      intro G' hk e45 e26
      refine t67_33 hR (fun h => ?_) (fun _ => b67_38 hR (j1 := 0 + k) (j2 := 8 * p + k) (by rw [Nat.zero_add]) (by omega) (by rw [nI_m, nI_add]) (by omega) ?_)
      · rw [nI_leI (by omega) (by omega)] at h
        omega
      · rw [nI_s]
        simp only [mv]
        exact ih (k + 1) _ (by omega) (by rw [v_f (by decide)]; exact e45) (by rw [v_f (by decide)]; exact e26)
  have fin := k1 0 N G (by omega) rfl rfl
  rw [hNe] at fin
  refine t67_0 hR rfl hp (fun h => ?_) (fun h => ?_)
  · have e : G 45 0 = nI (tlN G p) := by rw [← hst]; unfold mnI; rw [if_pos h]
    rw [e]
    unfold tlF tl1
    exact fin
  · have e : G 36 p = nI (tlN G p) := by rw [← hst]; unfold mnI; rw [if_neg h]
    rw [e]
    unfold tlF tl1
    exact fin
theorem r68 (hR : RS R) {p j m n : Nat} (hp : p < 8) (hj : j < 6) (hm : G 43 j = nI m) (hm24 : m ≤ 12) (hn : G 36 p = nI n) (hn8 : n ≤ 8) : pE ns (d + 1) 68 [pm_r 20 0, pm_i (nI p), pm_i (nI j)] (mm x R Z Y o A c G g) (.inl (some (pm_i (nI (tbN G p j)))), mm x R Z Y o A c (tbF G p j) g) := by
  have hN : tbN G p j = min n m := by
    unfold tbN
    rw [hn, hm, mnI_of (by omega) (by omega), nI_clamp (by omega)]
  have hst : mnI (G 36 p) (G 43 j) = nI (tbN G p j) := by rw [hN, hn, hm, mnI_of (by omega) (by omega)]
  obtain ⟨N, hNe⟩ : ∃ N, N = tbN G p j := ⟨_, rfl⟩
  have hN8 : N ≤ 8 := by omega
  have hNm : N ≤ m := by omega
  refine en rfl ?_
  have k2 : ∀ k n' (G' : Nat → Nat → Int32), k + n' = m - N → G' 43 j = G 43 j → pW ns d 68 73 [some (pm_r 20 0), some (pm_i (nI p)), some (pm_i (nI j)), some (pm_i (nI N)), some (pm_i (nI (N + k)))] [] (mm x R Z Y o A c G' g) (fun r' => r' = (.inl (some (pm_i (nI N))), mm x R Z Y o A c (pm_v (pm_v (mv 42 (12 * j) 42 (12 * j + N) G' k n') 43 j (G 43 j - nI N)) 27 p (nI N)) g)) := by
    intro k n'
    induction n' generalizing k with
    | zero =>
      intro G' hk e43
      refine t68_73 hR rfl hj (fun _ => b68_116 hR rfl hj rfl hp ?_) (fun h => ?_)
      · rw [e43]
        rfl
      · rw [e43, hm, nI_leI (by omega) (by omega)] at h
        omega
    | succ n' ih =>
      intro G' hk e43
      refine t68_73 hR rfl hj (fun h => ?_) (fun _ => b68_84 hR (j1 := 12 * j + N + k) (j2 := 12 * j + k) (by rw [nI_m, nI_add]; congr 1; omega) (by omega) (by rw [nI_m, nI_add, pk_sub (by omega)]; congr 1; omega) (by omega) ?_)
      · rw [e43, hm, nI_leI (by omega) (by omega)] at h
        omega
      · rw [nI_s]
        simp only [mv]
        exact ih (k + 1) _ (by omega) (by rw [v_f (by decide)]; exact e43)
  have k1 : ∀ k n' (G' : Nat → Nat → Int32), k + n' = N → G' 43 j = G 43 j → pW ns d 68 34 [some (pm_r 20 0), some (pm_i (nI p)), some (pm_i (nI j)), some (pm_i (nI N)), some (pm_i (nI k))] [] (mm x R Z Y o A c G' g) (fun r' => r' = (.inl (some (pm_i (nI N))), mm x R Z Y o A c (pm_v (pm_v (mv 42 (12 * j) 42 (12 * j + N) (mv 41 (8 * p) 42 (12 * j) G' k n') 0 (m - N)) 43 j (G 43 j - nI N)) 27 p (nI N)) g)) := by
    intro k n'
    induction n' generalizing k with
    | zero =>
      intro G' hk e43
      refine t68_34 hR (fun _ => k2 0 (m - N) G' (by omega) e43) (fun h => ?_)
      rw [nI_leI (by omega) (by omega)] at h
      omega
    | succ n' ih =>
      intro G' hk e43
      refine t68_34 hR (fun h => ?_) (fun _ => b68_40 hR (j1 := 12 * j + k) (j2 := 8 * p + k) (by rw [nI_m, nI_add]) (by omega) (by rw [nI_m, nI_add]) (by omega) ?_)
      · rw [nI_leI (by omega) (by omega)] at h
        omega
      · rw [nI_s]
        simp only [mv]
        exact ih (k + 1) _ (by omega) (by rw [v_f (by decide)]; exact e43)
  have fin := k1 0 N G (by omega) rfl
  have em : (G 43 j).toNatClampNeg = m := by rw [hm, nI_clamp (by omega)]
  rw [hNe, ← em] at fin
  refine t68_0 hR rfl hp rfl hj (fun h => ?_) (fun h => ?_)
  · have e : G 43 j = nI (tbN G p j) := by rw [← hst]; unfold mnI; rw [if_pos h]
    unfold tbF
    rw [show [some (pm_r 20 0), some (pm_i (nI p)), some (pm_i (nI j)), some (pm_i (G 43 j)), some (pm_i (nI 0))] = [some (pm_r 20 0), some (pm_i (nI p)), some (pm_i (nI j)), some (pm_i (nI (tbN G p j))), some (pm_i (nI 0))] from by rw [e]]
    exact fin
  · have e : G 36 p = nI (tbN G p j) := by rw [← hst]; unfold mnI; rw [if_neg h]
    unfold tbF
    rw [show [some (pm_r 20 0), some (pm_i (nI p)), some (pm_i (nI j)), some (pm_i (G 36 p)), some (pm_i (nI 0))] = [some (pm_r 20 0), some (pm_i (nI p)), some (pm_i (nI j)), some (pm_i (nI (tbN G p j))), some (pm_i (nI 0))] from by rw [e]]
    exact fin
end R5
