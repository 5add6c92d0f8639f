/-! @ @ -/
/-! RUNS OF THE PURE MACHINE WITHOUT FUEL. pE: a call ends so, with every fuel that is large enough. pW: from this place on the frame ends with a result of which Q holds. -/
def pE (ns d mi : Nat) (a : List pm_V) (M : pm_M) (r : pm_O × pm_M) : Prop := ∃ N, ∀ fu, N ≤ fu → pm_call fu ns d mi a M = some r
def pW (ns d mi pc : Nat) (L : pm_L) (S : List pm_V) (M : pm_M) (Q : pm_O × pm_M → Prop) : Prop := ∃ r, Q r ∧ ∃ N, ∀ fu, N ≤ fu → ∀ n, N ≤ n → pm_go (pm_call fu ns d) ns d mi n pc L S M = some r
section WP
variable {ns d mi pc pc' pc1 pc2 mj : Nat} {L L' : pm_L} {S S' : List pm_V} {M M' M2 : pm_M} {Q : pm_O × pm_M → Prop}
theorem pW_eq (K : Nat) (h : ∀ call n, pm_go call ns d mi (n + K) pc L S M = pm_go call ns d mi n pc' L' S' M') (k : pW ns d mi pc' L' S' M' Q) : pW ns d mi pc L S M Q := by
  obtain ⟨r, hq, N, hN⟩ := k
  refine ⟨r, hq, N + K, fun fu hf n hn => ?_⟩
  obtain ⟨m, rfl⟩ : ∃ m, n = m + K := ⟨n - K, by omega⟩
  rw [h]
  exact hN fu (by omega) m (by omega)
theorem pW_if (K : Nat) {c : Prop} [Decidable c] (h : ∀ call n, pm_go call ns d mi (n + K) pc L S M = if c then pm_go call ns d mi n pc1 L' S' M' else pm_go call ns d mi n pc2 L' S' M') (k1 : c → pW ns d mi pc1 L' S' M' Q) (k2 : ¬ c → pW ns d mi pc2 L' S' M' Q) : pW ns d mi pc L S M Q := by
  by_cases hc : c
  · exact pW_eq K (fun call n => (h call n).trans (if_pos hc)) (k1 hc)
  · exact pW_eq K (fun call n => (h call n).trans (if_neg hc)) (k2 hc)
theorem pW_ret (K : Nat) {r : pm_O × pm_M} (h : ∀ call n, pm_go call ns d mi (n + K) pc L S M = some r) (k : Q r) : pW ns d mi pc L S M Q := by
  refine ⟨r, k, K, fun fu hf n hn => ?_⟩
  obtain ⟨m, rfl⟩ : ∃ m, n = m + K := ⟨n - K, by omega⟩
  exact h _ m
theorem pW_call (K : Nat) {a r : List pm_V} {v : Option pm_V} (h : ∀ call n, pm_go call ns d mi (n + K) pc L S M = pm_cl call mi (pm_go call ns d mi n) pc' mj a r L' M') (hE : pE ns d mj a M' (.inl v, M2)) (k : pW ns d mi (pc' + 3) L' (v.toList ++ r) M2 Q) : pW ns d mi pc L S M Q := by
  obtain ⟨r', hq, N, hN⟩ := k
  obtain ⟨N2, hN2⟩ := hE
  refine ⟨r', hq, max N N2 + K, fun fu hf n hn => ?_⟩
  obtain ⟨m, rfl⟩ : ∃ m, n = m + K := ⟨n - K, by omega⟩
  rw [h]
  unfold pm_cl
  rw [hN2 fu (by omega)]
  exact hN fu (by omega) m (by omega)
theorem pW_callx (K : Nat) {a r : List pm_V} {e : Nat} (h : ∀ call n, pm_go call ns d mi (n + K) pc L S M = pm_cl call mi (pm_go call ns d mi n) pc' mj a r L' M') (hE : pE ns d mj a M' (.inr e, M2)) (hh : pm_hd (pm_hnd mi) pc' e = none ∧ pm_hnd mi = []) (k : Q (.inr e, M2)) : pW ns d mi pc L S M Q := by
  obtain ⟨N2, hN2⟩ := hE
  refine ⟨_, k, N2 + K, fun fu hf n hn => ?_⟩
  obtain ⟨m, rfl⟩ : ∃ m, n = m + K := ⟨n - K, by omega⟩
  rw [h]
  unfold pm_cl
  rw [hN2 fu (by omega)]
  show pm_ct mi _ pc' e L' M2 = _
  unfold pm_ct
  rw [hh.1, hh.2]
  rfl
theorem pW_callh (K : Nat) {a r : List pm_V} {e : Nat} {L2 : pm_L} (h : ∀ call n, pm_go call ns d mi (n + K) pc L S M = pm_cl call mi (pm_go call ns d mi n) pc' mj a r L' M') (hE : pE ns d mj a M' (.inr e, M2)) (hh : ∀ k : Nat → pm_L → List pm_V → pm_M → pm_R, pm_ct mi k pc' e L' M2 = k pc1 L2 [] M2) (k : pW ns d mi pc1 L2 [] M2 Q) : pW ns d mi pc L S M Q := by
  obtain ⟨r', hq, N, hN⟩ := k
  obtain ⟨N2, hN2⟩ := hE
  refine ⟨r', hq, max N N2 + K, fun fu hf n hn => ?_⟩
  obtain ⟨m, rfl⟩ : ∃ m, n = m + K := ⟨n - K, by omega⟩
  rw [h]
  unfold pm_cl
  rw [hN2 fu (by omega)]
  show pm_ct mi _ pc' e L' M2 = _
  rw [hh]
  exact hN fu (by omega) m (by omega)
theorem pW_E {a : List pm_V} (hl : mi < 146 ∧ (pm_ent a).length ≤ pm_maxL mi) (h : pW ns d mi 0 (pm_ent a ++ List.replicate (pm_maxL mi - (pm_ent a).length) none) [] M Q) : ∃ r, Q r ∧ pE ns (d + 1) mi a M r := by
  obtain ⟨r, hq, N, hN⟩ := h
  refine ⟨r, hq, N, fun fu hf => ?_⟩
  unfold pm_call
  rw [if_pos hl]
  exact hN fu hf fu hf
theorem pW_mono {Q' : pm_O × pm_M → Prop} (h : pW ns d mi pc L S M Q) (hq : ∀ r, Q r → Q' r) : pW ns d mi pc L S M Q' := by
  obtain ⟨r, h1, h2⟩ := h
  exact ⟨r, hq r h1, h2⟩
end WP
theorem en {ns d mi : Nat} {a : List pm_V} {M : pm_M} {r : pm_O × pm_M} (hl : (Nat.ble (mi + 1) 146 && Nat.ble (pm_ent a).length (pm_maxL mi)) = true) (h : pW ns d mi 0 (pm_ent a ++ List.replicate (pm_maxL mi - (pm_ent a).length) none) [] M (fun r' => r' = r)) : pE ns (d + 1) mi a M r := by
  rw [Bool.and_eq_true] at hl
  obtain ⟨r', rfl, hE⟩ := pW_E ⟨Nat.le_of_ble_eq_true hl.1, Nat.le_of_ble_eq_true hl.2⟩ h
  exact hE
theorem enQ {ns d mi : Nat} {a : List pm_V} {M : pm_M} {Q : pm_O × pm_M → Prop} (hl : (Nat.ble (mi + 1) 146 && Nat.ble (pm_ent a).length (pm_maxL mi)) = true) (h : pW ns d mi 0 (pm_ent a ++ List.replicate (pm_maxL mi - (pm_ent a).length) none) [] M Q) : ∃ r, Q r ∧ pE ns (d + 1) mi a M r := by
  rw [Bool.and_eq_true] at hl
  exact pW_E ⟨Nat.le_of_ble_eq_true hl.1, Nat.le_of_ble_eq_true hl.2⟩ h
/-! THE MEMORY AFTER THE CONSTRUCTORS: the class's ints A (families below 20) and its calls' bytes c, the reference's ints G and its bytes g, the long o that the law hands around; R is fixed, x counts the exceptions, Z and Y are the rest (the script is Z 99 0). -/
def mA (Z A : Nat → Nat → Nat → Int32) (G : Nat → Nat → Int32) : Nat → Nat → Nat → Int32 := fun f i k => if f < 20 then A f i k else if f < 60 ∧ i = 0 then G f k else Z f i k
def mB (Y : Nat → Nat → Nat → Int64) (o : Int64) (c g : Nat → Int64) : Nat → Nat → Nat → Int64 := fun f i k => if f = 13 ∧ k = 3 then c i else if f = 37 ∧ i = 0 then g k else if f = 60 ∧ i = 0 ∧ k = 0 then o else Y f i k
abbrev mm (x : Nat) (R : Nat → Nat → Nat → Option (Nat × Nat)) (Z : Nat → Nat → Nat → Int32) (Y : Nat → Nat → Nat → Int64) (o : Int64) (A : Nat → Nat → Nat → Int32) (c : Nat → Int64) (G : Nat → Nat → Int32) (g : Nat → Int64) : pm_M := (mA Z A G, mB Y o c g, R, pm_tot, x)
def pm_v (G : Nat → Nat → Int32) (f k : Nat) (v : Int32) : Nat → Nat → Int32 := fun f' k' => if f' = f ∧ k' = k then v else G f' k'
def pm_w (c : Nat → Int64) (i : Nat) (v : Int64) : Nat → Int64 := fun i' => if i' = i then v else c i'
theorem uA {Z A : Nat → Nat → Nat → Int32} {G : Nat → Nat → Int32} {f i k : Nat} {v : Int32} (h : f < 20) : pm_u (mA Z A G) f i k v = mA Z (pm_u A f i k v) G := by
  funext f' i' k'
  simp only [pm_u, mA]
  by_cases h1 : f' = f ∧ i' = i ∧ k' = k
  · rw [if_pos h1, if_pos (by omega), if_pos h1]
  · rw [if_neg h1, if_neg h1]
theorem uG {Z A : Nat → Nat → Nat → Int32} {G : Nat → Nat → Int32} {f k : Nat} {v : Int32} (h : 20 ≤ f ∧ f < 60) : pm_u (mA Z A G) f 0 k v = mA Z A (pm_v G f k v) := by
  funext f' i' k'
  simp only [pm_u, mA, pm_v]
  by_cases h1 : f' = f ∧ i' = 0 ∧ k' = k
  · rw [if_pos h1, if_neg (by omega), if_pos (by omega), if_pos (by omega)]
  · rw [if_neg h1]
    by_cases h2 : f' < 20
    · rw [if_pos h2, if_pos h2]
    · rw [if_neg h2, if_neg h2]
      by_cases h3 : f' < 60 ∧ i' = 0
      · rw [if_pos h3, if_pos h3, if_neg (by omega)]
      · rw [if_neg h3, if_neg h3]
theorem uC {Y : Nat → Nat → Nat → Int64} {o : Int64} {c g : Nat → Int64} {i : Nat} {v : Int64} : pm_u (mB Y o c g) 13 i 3 v = mB Y o (pm_w c i v) g := by
  funext f' i' k'
  simp only [pm_u, mB, pm_w]
  split <;> split <;> first | rfl | omega | (split <;> first | rfl | omega)
theorem uH {Y : Nat → Nat → Nat → Int64} {o : Int64} {c g : Nat → Int64} {k : Nat} {v : Int64} : pm_u (mB Y o c g) 37 0 k v = mB Y o c (pm_w g k v) := by
  funext f' i' k'
  simp only [pm_u, mB, pm_w]
  by_cases h1 : f' = 13 ∧ k' = 3
  · rw [if_neg (by omega), if_pos h1, if_pos h1]
  · rw [if_neg h1, if_neg h1]
    by_cases h2 : f' = 37 ∧ i' = 0
    · rw [if_pos h2, if_pos h2]
      by_cases h3 : k' = k
      · rw [if_pos (by omega), if_pos h3]
      · rw [if_neg (by omega), if_neg h3]
    · rw [if_neg h2, if_neg h2, if_neg (by omega)]
theorem uO {Y : Nat → Nat → Nat → Int64} {o : Int64} {c g : Nat → Int64} {v : Int64} : pm_u (mB Y o c g) 60 0 0 v = mB Y v c g := by
  funext f' i' k'
  simp only [pm_u, mB]
  by_cases h1 : f' = 60 ∧ i' = 0 ∧ k' = 0
  · rw [if_pos h1, if_neg (by omega), if_neg (by omega), if_pos h1]
  · simp only [if_neg h1]
theorem uO1 {Y : Nat → Nat → Nat → Int64} {o : Int64} {c g : Nat → Int64} {v : Int64} {k : Nat} (h : k < 1) : pm_u (mB Y o c g) 60 0 k v = mB Y v c g := by
  obtain rfl : k = 0 := by omega
  exact uO
/-- where the references lead -/
def RS (R : Nat → Nat → Nat → Option (Nat × Nat)) : Prop :=
  (∀ k, k < 3 → R 0 0 k = some (1 + k, 0)) ∧ (∀ k, k < 8 → R 1 0 k = some (8, k)) ∧ (∀ k, k < 6 → R 2 0 k = some (4, k)) ∧ (R 3 0 0 = some (6, 0) ∧ R 3 0 1 = some (14, 0) ∧ R 3 0 2 = some (15, 0)) ∧ (∀ i, i < 6 → R 4 i 0 = some (5, i)) ∧ R 6 0 0 = some (7, 0) ∧ (∀ i, i < 8 → ∀ k, k < 5 → R 8 i (k + 1) = some (9 + k, i)) ∧ (∀ k, k < 32 → k ≠ 0 → k ≠ 20 → k ≠ 25 → k ≠ 26 → k ≠ 27 → k ≠ 28 → R 20 0 k = some ((if k < 20 then 20 + k else if k < 25 then 19 + k else 15 + k), 0))
theorem g_ok {M : pm_M} {f i : Nat} {a : pm_R} (hi : i < pm_cnt f) (hn : M.2.2.2.1 = pm_tot) : pm_g M f i a = a := by
  unfold pm_g pm_ok
  rw [if_pos]
  rw [hn]
  simp [hi]
theorem ix_ok {e : Int32} {j n : Nat} {g : Nat → pm_R} (he : e = nI j) (hj : j < n) (hn : n < 2 ^ 31) : pm_ix e n g = g j := by
  subst he
  unfold pm_ix
  rw [if_neg (nI_in hj hn), nI_clamp (by omega)]
theorem bo_ok {e : Int32} {a : pm_R} (h : e = 0 ∨ e = 1) : pm_bo e a = a := by
  unfold pm_bo
  rw [if_pos h]
theorem rs_0_0 {R : Nat → Nat → Nat → Option (Nat × Nat)} (h : RS R) : R 0 0 0 = some (1, 0) := h.1 0 (by decide)
theorem rs_0_1 {R : Nat → Nat → Nat → Option (Nat × Nat)} (h : RS R) : R 0 0 1 = some (2, 0) := h.1 1 (by decide)
theorem rs_0_2 {R : Nat → Nat → Nat → Option (Nat × Nat)} (h : RS R) : R 0 0 2 = some (3, 0) := h.1 2 (by decide)
theorem rs_1 {R : Nat → Nat → Nat → Option (Nat × Nat)} (h : RS R) {k : Nat} (hk : k < 8) : R 1 0 k = some (8, k) := h.2.1 k hk
theorem rs_2 {R : Nat → Nat → Nat → Option (Nat × Nat)} (h : RS R) {k : Nat} (hk : k < 6) : R 2 0 k = some (4, k) := h.2.2.1 k hk
theorem rs_3_0 {R : Nat → Nat → Nat → Option (Nat × Nat)} (h : RS R) : R 3 0 0 = some (6, 0) := h.2.2.2.1.1
theorem rs_3_1 {R : Nat → Nat → Nat → Option (Nat × Nat)} (h : RS R) : R 3 0 1 = some (14, 0) := h.2.2.2.1.2.1
theorem rs_3_2 {R : Nat → Nat → Nat → Option (Nat × Nat)} (h : RS R) : R 3 0 2 = some (15, 0) := h.2.2.2.1.2.2
theorem rs_4_0 {R : Nat → Nat → Nat → Option (Nat × Nat)} (h : RS R) {i : Nat} (hi : i < 6) : R 4 i 0 = some (5, i) := h.2.2.2.2.1 i hi
theorem rs_6_0 {R : Nat → Nat → Nat → Option (Nat × Nat)} (h : RS R) : R 6 0 0 = some (7, 0) := h.2.2.2.2.2.1
theorem rs_8_1 {R : Nat → Nat → Nat → Option (Nat × Nat)} (h : RS R) {i : Nat} (hi : i < 8) : R 8 i 1 = some (9, i) := h.2.2.2.2.2.2.1 i hi 0 (by decide)
theorem rs_8_2 {R : Nat → Nat → Nat → Option (Nat × Nat)} (h : RS R) {i : Nat} (hi : i < 8) : R 8 i 2 = some (10, i) := h.2.2.2.2.2.2.1 i hi 1 (by decide)
theorem rs_8_3 {R : Nat → Nat → Nat → Option (Nat × Nat)} (h : RS R) {i : Nat} (hi : i < 8) : R 8 i 3 = some (11, i) := h.2.2.2.2.2.2.1 i hi 2 (by decide)
theorem rs_8_4 {R : Nat → Nat → Nat → Option (Nat × Nat)} (h : RS R) {i : Nat} (hi : i < 8) : R 8 i 4 = some (12, i) := h.2.2.2.2.2.2.1 i hi 3 (by decide)
theorem rs_8_5 {R : Nat → Nat → Nat → Option (Nat × Nat)} (h : RS R) {i : Nat} (hi : i < 8) : R 8 i 5 = some (13, i) := h.2.2.2.2.2.2.1 i hi 4 (by decide)
theorem rs_20_1 {R : Nat → Nat → Nat → Option (Nat × Nat)} (h : RS R) : R 20 0 1 = some (21, 0) := h.2.2.2.2.2.2.2 1 (by decide) (by decide) (by decide) (by decide) (by decide) (by decide) (by decide)
theorem rs_20_2 {R : Nat → Nat → Nat → Option (Nat × Nat)} (h : RS R) : R 20 0 2 = some (22, 0) := h.2.2.2.2.2.2.2 2 (by decide) (by decide) (by decide) (by decide) (by decide) (by decide) (by decide)
theorem rs_20_3 {R : Nat → Nat → Nat → Option (Nat × Nat)} (h : RS R) : R 20 0 3 = some (23, 0) := h.2.2.2.2.2.2.2 3 (by decide) (by decide) (by decide) (by decide) (by decide) (by decide) (by decide)
theorem rs_20_4 {R : Nat → Nat → Nat → Option (Nat × Nat)} (h : RS R) : R 20 0 4 = some (24, 0) := h.2.2.2.2.2.2.2 4 (by decide) (by decide) (by decide) (by decide) (by decide) (by decide) (by decide)
theorem rs_20_5 {R : Nat → Nat → Nat → Option (Nat × Nat)} (h : RS R) : R 20 0 5 = some (25, 0) := h.2.2.2.2.2.2.2 5 (by decide) (by decide) (by decide) (by decide) (by decide) (by decide) (by decide)
theorem rs_20_6 {R : Nat → Nat → Nat → Option (Nat × Nat)} (h : RS R) : R 20 0 6 = some (26, 0) := h.2.2.2.2.2.2.2 6 (by decide) (by decide) (by decide) (by decide) (by decide) (by decide) (by decide)
theorem rs_20_7 {R : Nat → Nat → Nat → Option (Nat × Nat)} (h : RS R) : R 20 0 7 = some (27, 0) := h.2.2.2.2.2.2.2 7 (by decide) (by decide) (by decide) (by decide) (by decide) (by decide) (by decide)
theorem rs_20_8 {R : Nat → Nat → Nat → Option (Nat × Nat)} (h : RS R) : R 20 0 8 = some (28, 0) := h.2.2.2.2.2.2.2 8 (by decide) (by decide) (by decide) (by decide) (by decide) (by decide) (by decide)
theorem rs_20_9 {R : Nat → Nat → Nat → Option (Nat × Nat)} (h : RS R) : R 20 0 9 = some (29, 0) := h.2.2.2.2.2.2.2 9 (by decide) (by decide) (by decide) (by decide) (by decide) (by decide) (by decide)
theorem rs_20_10 {R : Nat → Nat → Nat → Option (Nat × Nat)} (h : RS R) : R 20 0 10 = some (30, 0) := h.2.2.2.2.2.2.2 10 (by decide) (by decide) (by decide) (by decide) (by decide) (by decide) (by decide)
theorem rs_20_11 {R : Nat → Nat → Nat → Option (Nat × Nat)} (h : RS R) : R 20 0 11 = some (31, 0) := h.2.2.2.2.2.2.2 11 (by decide) (by decide) (by decide) (by decide) (by decide) (by decide) (by decide)
theorem rs_20_12 {R : Nat → Nat → Nat → Option (Nat × Nat)} (h : RS R) : R 20 0 12 = some (32, 0) := h.2.2.2.2.2.2.2 12 (by decide) (by decide) (by decide) (by decide) (by decide) (by decide) (by decide)
theorem rs_20_13 {R : Nat → Nat → Nat → Option (Nat × Nat)} (h : RS R) : R 20 0 13 = some (33, 0) := h.2.2.2.2.2.2.2 13 (by decide) (by decide) (by decide) (by decide) (by decide) (by decide) (by decide)
theorem rs_20_14 {R : Nat → Nat → Nat → Option (Nat × Nat)} (h : RS R) : R 20 0 14 = some (34, 0) := h.2.2.2.2.2.2.2 14 (by decide) (by decide) (by decide) (by decide) (by decide) (by decide) (by decide)
theorem rs_20_15 {R : Nat → Nat → Nat → Option (Nat × Nat)} (h : RS R) : R 20 0 15 = some (35, 0) := h.2.2.2.2.2.2.2 15 (by decide) (by decide) (by decide) (by decide) (by decide) (by decide) (by decide)
theorem rs_20_16 {R : Nat → Nat → Nat → Option (Nat × Nat)} (h : RS R) : R 20 0 16 = some (36, 0) := h.2.2.2.2.2.2.2 16 (by decide) (by decide) (by decide) (by decide) (by decide) (by decide) (by decide)
theorem rs_20_17 {R : Nat → Nat → Nat → Option (Nat × Nat)} (h : RS R) : R 20 0 17 = some (37, 0) := h.2.2.2.2.2.2.2 17 (by decide) (by decide) (by decide) (by decide) (by decide) (by decide) (by decide)
theorem rs_20_18 {R : Nat → Nat → Nat → Option (Nat × Nat)} (h : RS R) : R 20 0 18 = some (38, 0) := h.2.2.2.2.2.2.2 18 (by decide) (by decide) (by decide) (by decide) (by decide) (by decide) (by decide)
theorem rs_20_19 {R : Nat → Nat → Nat → Option (Nat × Nat)} (h : RS R) : R 20 0 19 = some (39, 0) := h.2.2.2.2.2.2.2 19 (by decide) (by decide) (by decide) (by decide) (by decide) (by decide) (by decide)
theorem rs_20_21 {R : Nat → Nat → Nat → Option (Nat × Nat)} (h : RS R) : R 20 0 21 = some (40, 0) := h.2.2.2.2.2.2.2 21 (by decide) (by decide) (by decide) (by decide) (by decide) (by decide) (by decide)
theorem rs_20_22 {R : Nat → Nat → Nat → Option (Nat × Nat)} (h : RS R) : R 20 0 22 = some (41, 0) := h.2.2.2.2.2.2.2 22 (by decide) (by decide) (by decide) (by decide) (by decide) (by decide) (by decide)
theorem rs_20_23 {R : Nat → Nat → Nat → Option (Nat × Nat)} (h : RS R) : R 20 0 23 = some (42, 0) := h.2.2.2.2.2.2.2 23 (by decide) (by decide) (by decide) (by decide) (by decide) (by decide) (by decide)
theorem rs_20_24 {R : Nat → Nat → Nat → Option (Nat × Nat)} (h : RS R) : R 20 0 24 = some (43, 0) := h.2.2.2.2.2.2.2 24 (by decide) (by decide) (by decide) (by decide) (by decide) (by decide) (by decide)
theorem rs_20_29 {R : Nat → Nat → Nat → Option (Nat × Nat)} (h : RS R) : R 20 0 29 = some (44, 0) := h.2.2.2.2.2.2.2 29 (by decide) (by decide) (by decide) (by decide) (by decide) (by decide) (by decide)
theorem rs_20_30 {R : Nat → Nat → Nat → Option (Nat × Nat)} (h : RS R) : R 20 0 30 = some (45, 0) := h.2.2.2.2.2.2.2 30 (by decide) (by decide) (by decide) (by decide) (by decide) (by decide) (by decide)
theorem rs_20_31 {R : Nat → Nat → Nat → Option (Nat × Nat)} (h : RS R) : R 20 0 31 = some (46, 0) := h.2.2.2.2.2.2.2 31 (by decide) (by decide) (by decide) (by decide) (by decide) (by decide) (by decide)
