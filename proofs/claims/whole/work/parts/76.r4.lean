/-! @76.r3@ the reference: whether a call can be done -/
def unask (G : Nat → Nat → Int32) (p : Nat) : Bool := decide (p = 0) || (decide (G 33 (8 * p + 5) = nI 1) || (bt (G 24 p) 5 || orph G (G 23 p)))
/-- the first one from k on, among n -/
def fst (P : Nat → Bool) (k : Nat) : Nat → Nat
  | 0 => k
  | n + 1 => if P k = true then k else fst P (k + 1) n
def fitc (G : Nat → Nat → Int32) (p w k : Nat) : Bool := (if w = 0 then !decide (G 21 k = 0) else if w = 3 then decide (G 21 k = nI 3) && decide (G 31 k = 0) else decide (G 21 k = nI w)) && decide (G 22 k = nI p)
/-- the least child in the state w (0: in any, 3: stopped and not told), 8 if there is none -/
def chd (G : Nat → Nat → Int32) (p w : Nat) : Nat := fst (fitc G p w) 1 7
def cv (k : Nat) : Int32 := if k = 8 then -nI 1 else nI k
def cfi (G : Nat → Nat → Int32) (p : Nat) : Nat := (G 35 p).toNatClampNeg
def fv (G : Nat → Nat → Int32) (p : Nat) : Int32 := G 32 (6 * p + cfi G p)
def pix (v : Int32) : Nat := v.toNatClampNeg / 2 - 1
def chF (G : Nat → Nat → Int32) (p : Nat) : Nat :=
  if G 34 p = nI 1 then (if fv G p = nI 1 then (if G 23 p = G 20 25 then (if G 20 26 ≤ 0 then 0 else 1) else if unask G p = true then 1 else 2) else if 0 < G 43 (pix (fv G p)) ∨ opn G (fv G p + nI 1) = false then 1 else 0)
  else if G 34 p = nI 2 then (if fv G p = nI 1 ∨ opn G (fv G p - nI 1) = false ∨ ¬ nI 12 < G 43 (pix (fv G p)) + G 36 p then 1 else 0)
  else if G 34 p = nI 4 then 0 else if chd G p 0 = 8 ∨ chd G p 4 ≠ 8 ∨ (¬ G 38 p = 0 ∧ chd G p 3 ≠ 8) then 1 else 0
/-- the call of p is one that can be tried -/
def Cl (G : Nat → Nat → Int32) (p : Nat) : Prop := ∃ f, f < 6 ∧ G 35 p = nI f ∧ (∃ n, n ≤ 8 ∧ G 36 p = nI n ∧ ((G 34 p = nI 1 ∨ G 34 p = nI 2) → 1 ≤ n)) ∧ (G 34 p = nI 1 → G 32 (6 * p + f) = nI 1 ∨ ∃ j, j < 6 ∧ G 32 (6 * p + f) = nI (2 + 2 * j)) ∧ (G 34 p = nI 2 → G 32 (6 * p + f) = nI 1 ∨ ∃ j, j < 6 ∧ G 32 (6 * p + f) = nI (3 + 2 * j))
theorem fst_ge {P : Nat → Bool} : ∀ {n k : Nat}, k ≤ fst P k n
  | 0, k => Nat.le_refl _
  | n + 1, k => by
    have := fst_ge (P := P) (n := n) (k := k + 1)
    simp only [fst]
    split <;> omega
theorem fst_le {P : Nat → Bool} : ∀ {n k : Nat}, fst P k n ≤ k + n
  | 0, k => Nat.le_refl _
  | n + 1, k => by
    have := fst_le (P := P) (n := n) (k := k + 1)
    simp only [fst]
    split <;> omega
theorem fst_no {P : Nat → Bool} : ∀ {n k : Nat}, ∀ j, k ≤ j → j < fst P k n → P j = false
  | 0, k, j, h1, h2 => absurd h2 (by simp only [fst]; omega)
  | n + 1, k, j, h1, h2 => by
    simp only [fst] at h2
    split at h2
    · omega
    · rename_i h
      by_cases e : j = k
      · subst e
        exact Bool.not_eq_true _ ▸ h
      · exact fst_no (n := n) (k := k + 1) j (by omega) h2
theorem fst_yes {P : Nat → Bool} : ∀ {n k : Nat}, fst P k n < k + n → P (fst P k n) = true
  | 0, k, h => absurd h (by simp only [fst]; omega)
  | n + 1, k, h => by
    simp only [fst] at h ⊢
    split
    · rename_i hp
      exact hp
    · rename_i hp
      rw [if_neg hp] at h
      exact fst_yes (n := n) (k := k + 1) (by omega)
theorem chd_le {G : Nat → Nat → Int32} {p w : Nat} : 1 ≤ chd G p w ∧ chd G p w ≤ 8 := ⟨fst_ge, fst_le⟩
theorem cv_neg {k : Nat} (h : k ≤ 8) : cv k < 0 ↔ k = 8 := by
  unfold cv
  split
  · rename_i e
    subst e
    decide
  · rename_i e
    constructor
    · intro h'
      exact absurd h' (nI_pos (by omega))
    · intro h'
      exact absurd h' e
theorem cv_pos {k : Nat} (h1 : 1 ≤ k) (h : k ≤ 8) : 0 < cv k ↔ k ≠ 8 := by
  unfold cv
  split
  · rename_i e
    subst e
    decide
  · rename_i e
    constructor
    · intro _
      exact e
    · intro _
      rw [← nI_0]
      exact nI_lt (by omega) (by omega)
theorem Cl_of {e t p : Nat} {G : Nat → Nat → Int32} (hI : Iv e t G) (hp : p < 8) : Cl G p := hI.2.1 p hp
section R4
variable {ns d x : Nat} {R : Nat → Nat → Nat → Option (Nat × Nat)} {Z A : Nat → Nat → Nat → Int32} {Y : Nat → Nat → Nat → Int64} {o : Int64} {c g : Nat → Int64} {G : Nat → Nat → Int32}
theorem r54w (hR : RS R) {q : Int32} (i1 : I1 G) (i3 : I3 G) : pE ns (d + 2) 54 [pm_r 20 0, pm_i q] (mm x R Z Y o A c G g) (.inl (some (pm_i (bI (orph G q)))), mm x R Z Y o A c G g) := by
  refine r54 hR (fun p h1 hp hl => ?_)
  have nd := nd
  have ha := (lv_A (i1 p hp)).mp hl
  obtain ⟨k, h2, h3, -, -⟩ := i3 p h1 hp (by unfold A1 at ha; grind)
  exact ⟨k, h2, h3⟩
theorem r64 (hR : RS R) {p : Nat} (hp : p < 8) (i1 : I1 G) (i3 : I3 G) : pE ns (d + 3) 64 [pm_r 20 0, pm_i (nI p)] (mm x R Z Y o A c G g) (.inl (some (pm_i (bI (unask G p)))), mm x R Z Y o A c G g) := by
  refine en rfl (t64_0 hR (fun h => ?_) (fun h => b64_4 hR (j1 := 8 * p + 5) (by rw [nI_m, nI_add]) (by omega) (fun h1 => b64_46 hR ?_) (fun h1 => b64_19 hR rfl hp (fun h2 => b64_46 hR ?_) (fun h2 => b64_33 hR rfl hp (r54w hR i1 i3) (t64_43 hR (fun h3 => ?_) (fun h3 => ?_))))))
  · have : p = 0 := nI_inj (h.trans nI_0.symm) (by omega) (by decide)
    simp [unask, this, bI_t]
  · simp [unask, h1, bI_t]
  · rw [shr_bit (Or.inr rfl)] at h2
    simp [unask, h2, bI_t]
  · have h0 : ¬ p = 0 := fun e => h (by rw [e]; exact nI_0)
    rw [shr_bit (Or.inr rfl)] at h2
    simp [unask, h0, h1, h2, bI_0.mp h3, bI_f]
  · simp [unask, bI_n0.mp h3, bI_t]
theorem r65 (hR : RS R) {p w : Nat} (hp : p < 8) (hw : w < 5) : pE ns (d + 1) 65 [pm_r 20 0, pm_i (nI p), pm_i (nI w)] (mm x R Z Y o A c G g) (.inl (some (pm_i (cv (chd G p w)))), mm x R Z Y o A c G g) := by
  refine en rfl (b65_0 hR ?_)
  have key : ∀ j, j ≤ 7 → ∀ u, pW ns d 65 6 [some (pm_r 20 0), some (pm_i (nI p)), some (pm_i (nI w)), some (pm_i (cv (fst (fitc G p w) (j + 1) (7 - j)))), some (pm_i (nI j)), u] [] (mm x R Z Y o A c G g) (fun r' => r' = (.inl (some (pm_i (cv (chd G p w)))), mm x R Z Y o A c G g)) := by
    intro j
    induction j with
    | zero =>
      intro _ u
      exact t65_6 hR (fun _ => rfl) (fun h => absurd (by decide) h) (fun h => absurd (by decide) h) (fun h => absurd (by decide) h)
    | succ j ih =>
      intro hj u
      have ih := ih (by omega)
      have e1 : nI (j + 1) + pm_c (-1) = nI j := pk_m1 j
      have e7 : 7 - j = (7 - (j + 1)) + 1 := by omega
      have hno : fitc G p w (j + 1) = false → ∀ u, pW ns d 65 106 [some (pm_r 20 0), some (pm_i (nI p)), some (pm_i (nI w)), some (pm_i (cv (fst (fitc G p w) (j + 1 + 1) (7 - (j + 1))))), some (pm_i (nI (j + 1))), u] [] (mm x R Z Y o A c G g) (fun r' => r' = (.inl (some (pm_i (cv (chd G p w)))), mm x R Z Y o A c G g)) := by
        intro hf u
        refine b65_106 hR ?_
        rw [e1]
        have ih := ih u
        rw [e7] at ih
        simp only [fst, hf] at ih
        exact ih
      have hyes : fitc G p w (j + 1) = true → ∀ u u', pW ns d 65 101 [some (pm_r 20 0), some (pm_i (nI p)), some (pm_i (nI w)), u', some (pm_i (nI (j + 1))), u] [] (mm x R Z Y o A c G g) (fun r' => r' = (.inl (some (pm_i (cv (chd G p w)))), mm x R Z Y o A c G g)) := by
        intro hf u u'
        refine b65_101 hR ?_
        rw [e1]
        have ih := ih u
        rw [e7] at ih
        simp only [fst, hf, if_true] at ih
        rw [show cv (j + 1) = nI (j + 1) from if_neg (by omega)] at ih
        exact ih
      have h90 : ∀ b : Bool, (fitc G p w (j + 1) = (b && decide (G 22 (j + 1) = nI p))) → b = true → ∀ u, pW ns d 65 90 [some (pm_r 20 0), some (pm_i (nI p)), some (pm_i (nI w)), some (pm_i (cv (fst (fitc G p w) (j + 1 + 1) (7 - (j + 1))))), some (pm_i (nI (j + 1))), u] [] (mm x R Z Y o A c G g) (fun r' => r' = (.inl (some (pm_i (cv (chd G p w)))), mm x R Z Y o A c G g)) := by
        intro b hb hbt u
        subst hbt
        exact b65_90 hR rfl (by omega) (fun h => hyes (by simp [hb, h]) _ _) (fun h => hno (by simp [hb, h]) _)
      refine t65_6 hR (fun h => absurd h (by rw [← nI_0]; exact nI_ge (by omega) (by omega))) (fun _ h => ?_) (fun _ h h' => ?_) (fun _ h h' => ?_)
      · have hw0 : w = 0 := nI_inj (h.trans nI_0.symm) (by omega) (by decide)
        have hb : fitc G p w (j + 1) = (!decide (G 21 (j + 1) = 0) && decide (G 22 (j + 1) = nI p)) := by unfold fitc; rw [if_pos hw0]
        refine b65_15 hR rfl (by omega) (fun h1 => b65_29 hR (fun _ => hno (by simp [hb, h1]) _) (fun h => absurd (by decide) h)) (fun h1 => b65_25 hR (fun h => absurd h (by decide)) (fun _ => h90 _ hb (by simp [h1]) _))
      · have hw0 : w ≠ 0 := fun e => h (by rw [e]; exact nI_0)
        have hw3 : w = 3 := nI_inj h' (by omega) (by decide)
        have hb : fitc G p w (j + 1) = ((decide (G 21 (j + 1) = nI 3) && decide (G 31 (j + 1) = 0)) && decide (G 22 (j + 1) = nI p)) := by unfold fitc; rw [if_neg hw0, if_pos hw3]
        refine b65_38 hR rfl (by omega) (fun h1 => b65_49 hR rfl (by omega) (fun h2 => b65_59 hR (fun h => absurd h (by decide)) (fun _ => h90 _ hb (by simp [h1, h2]) _)) (fun h2 => b65_63 hR (fun _ => hno (by simp [hb, h2]) _) (fun h => absurd (by decide) h))) (fun h1 => b65_63 hR (fun _ => hno (by simp [hb, h1]) _) (fun h => absurd (by decide) h))
      · have hw0 : w ≠ 0 := fun e => h (by rw [e]; exact nI_0)
        have hw3 : w ≠ 3 := fun e => h' (by rw [e])
        have hb : fitc G p w (j + 1) = (decide (G 21 (j + 1) = nI w) && decide (G 22 (j + 1) = nI p)) := by unfold fitc; rw [if_neg hw0, if_neg hw3]
        refine b65_67 hR rfl (by omega) (fun h1 => b65_78 hR (fun h => absurd h (by decide)) (fun _ => h90 _ hb (by simp [h1]) _)) (fun h1 => b65_82 hR (fun _ => hno (by simp [hb, h1]) _) (fun h => absurd (by decide) h))
  exact key 7 (Nat.le_refl _) _
theorem pix_ix {j : Nat} {v : Nat} (hj : j < 6) (hv : v = 2 + 2 * j ∨ v = 3 + 2 * j) : nI v / nI 2 - nI 1 = nI j ∧ pix (nI v) = j := by
  constructor
  · rw [pk_div (by omega) (by decide) (by decide), pk_sub (by omega)]
    congr 1
    omega
  · unfold pix
    rw [nI_clamp (by omega)]
    omega
theorem r66 (hR : RS R) {p : Nat} (hp : p < 8) (i1 : I1 G) (i3 : I3 G) (hc : Cl G p) (i10 : I10 G) (h34 : G 34 p = nI 1 ∨ G 34 p = nI 2 ∨ G 34 p = nI 3 ∨ G 34 p = nI 4) : pE ns (d + 4) 66 [pm_r 20 0, pm_i (nI p)] (mm x R Z Y o A c G g) (.inl (some (pm_i (nI (chF G p)))), mm x R Z Y o A c G g) := by
  obtain ⟨f, hf, e35, ⟨n, hn, e36, hn1⟩, hrd, hwr⟩ := hc
  have ecf : cfi G p = f := by rw [cfi, e35, nI_clamp (by omega)]
  have efv : fv G p = G 32 (6 * p + f) := by rw [fv, ecf]
  have nd := nd
  refine en rfl ?_
  have hlow : (G 34 p = nI 1 ∨ G 34 p = nI 2) → ∀ u, (G 34 p = nI 1 → pW ns (d + 3) 66 41 [some (pm_r 20 0), some (pm_i (nI p)), some (pm_i (fv G p))] [] (mm x R Z Y o A c G g) (fun r' => r' = (.inl (some (pm_i (nI (chF G p)))), mm x R Z Y o A c G g))) → (G 34 p = nI 2 → pW ns (d + 3) 66 86 [some (pm_r 20 0), some (pm_i (nI p)), some (pm_i (fv G p))] [] (mm x R Z Y o A c G g) (fun r' => r' = (.inl (some (pm_i (nI (chF G p)))), mm x R Z Y o A c G g))) → pW ns (d + 3) 66 0 [some (pm_r 20 0), some (pm_i (nI p)), u] [] (mm x R Z Y o A c G g) (fun r' => r' = (.inl (some (pm_i (nI (chF G p)))), mm x R Z Y o A c G g)) := by
    intro hl u k1 k2
    refine b66_0 hR rfl hp (fun h => ?_) (fun _ => b66_10 hR (j2 := 6 * p + f) rfl hp (by rw [e35, nI_m, nI_add]) (by omega) (fun h => ?_) (fun h => ?_))
    · rcases hl with h' | h' <;> rw [h'] at h <;> exact absurd h (by decide)
    · rw [← efv]
      exact k1 h
    · rw [← efv]
      exact k2 (by grind)
  have hhigh : (G 34 p = nI 3 ∨ G 34 p = nI 4) → ∀ u, pW ns (d + 3) 66 86 [some (pm_r 20 0), some (pm_i (nI p)), some (pm_i (nI 0))] [] (mm x R Z Y o A c G g) (fun r' => r' = (.inl (some (pm_i (nI (chF G p)))), mm x R Z Y o A c G g)) → pW ns (d + 3) 66 0 [some (pm_r 20 0), some (pm_i (nI p)), u] [] (mm x R Z Y o A c G g) (fun r' => r' = (.inl (some (pm_i (nI (chF G p)))), mm x R Z Y o A c G g)) := by
    intro hl u k
    refine b66_0 hR rfl hp (fun _ => b66_29 hR rfl hp (fun h => ?_) (fun h => k)) (fun h => ?_)
    · rcases hl with h' | h' <;> rw [h'] at h <;> exact absurd h (by decide)
    · rcases hl with h' | h' <;> rw [h'] at h <;> exact absurd (by decide) h
  rcases h34 with h | h | h | h
  · refine hlow (Or.inl h) _ (fun _ => b66_41 hR (fun h1 => b66_46 hR rfl hp (fun h2 => b66_73 hR (fun h3 => b66_84 hR ?_) (fun h3 => b66_80 hR ?_)) (fun h2 => b66_59 hR (r64 hR hp i1 i3) (t66_64 hR (fun h3 => ?_) (fun h3 => ?_)))) (fun h1 => ?_)) (fun h' => absurd (h.symm.trans h') (by decide))
    · simp only [chF, if_pos h, if_pos h1, if_pos h2, if_pos h3]
    · simp only [chF, if_pos h, if_pos h1, if_pos h2, if_neg h3]
    · simp only [chF, if_pos h, if_pos h1, if_neg h2, bI_0.mp h3]
      rfl
    · simp only [chF, if_pos h, if_pos h1, if_neg h2, bI_n0.mp h3]
      rfl
    · obtain ⟨j, hj, ej⟩ := (hrd h).resolve_left (by rw [← efv]; exact h1)
      rw [← efv] at ej
      obtain ⟨e1, e2⟩ := pix_ix (v := 2 + 2 * j) hj (Or.inl rfl)
      have e3 : pix (fv G p) = j := by rw [ej]; exact e2
      refine b66_86 hR rfl hp (fun _ => b66_96 hR (j1 := j) (by rw [ej]; exact e1) hj (fun h2 => b66_119 hR ?_) (fun h2 => b66_109 hR (r49 hR) (t66_116 hR (fun h3 => ?_) (fun h3 => ?_)))) (fun h' => absurd h h')
      · simp only [chF, if_pos h, if_neg h1, e3, if_pos (Or.inl h2)]
      · rw [ends0] at h3
        simp only [chF, if_pos h, if_neg h1, if_pos (Or.inr h3)]
      · rw [ends0] at h3
        simp only [chF, if_pos h, if_neg h1, e3]
        rw [if_neg (by rintro (h4 | h4); exact h2 h4; exact h3 h4)]
  · have hn1 : ¬ G 34 p = nI 1 := by grind
    refine hlow (Or.inr h) _ (fun h' => absurd (h.symm.trans h') (by decide)) (fun _ => b66_86 hR rfl hp (fun h' => absurd h' hn1) (fun _ => b66_125 hR rfl hp (fun _ => b66_135 hR (fun h1 => b66_172 hR ?_) (fun h1 => ?_)) (fun h' => absurd h h')))
    · simp only [chF, if_neg hn1, if_pos h, if_pos (Or.inl h1)]
    · obtain ⟨j, hj, ej⟩ := (hwr h).resolve_left (by rw [← efv]; exact h1)
      rw [← efv] at ej
      obtain ⟨e1, e2⟩ := pix_ix (v := 3 + 2 * j) hj (Or.inr rfl)
      have e3 : pix (fv G p) = j := by rw [ej]; exact e2
      refine b66_140 hR (r49 hR) (t66_147 hR (fun h3 => ?_) (fun h3 => b66_150 hR (j1 := j) (by rw [ej]; exact e1) hj rfl hp (fun h4 => b66_176 hR ?_) (fun h4 => b66_172 hR ?_)))
      · rw [ends0] at h3
        simp only [chF, if_neg hn1, if_pos h, if_pos (Or.inr (Or.inl h3))]
      · rw [ends0] at h3
        simp only [chF, if_neg hn1, if_pos h, e3]
        rw [if_neg (by rintro (h5 | h5 | h5); exact h1 h5; exact h3 h5; exact h5 h4)]
      · simp only [chF, if_neg hn1, if_pos h, e3, if_pos (Or.inr (Or.inr h4))]
  · have hn1 : ¬ G 34 p = nI 1 := by grind
    have hn2 : ¬ G 34 p = nI 2 := by grind
    have hn4 : ¬ G 34 p = nI 4 := by grind
    have l0 := chd_le (G := G) (p := p) (w := 0)
    have l4 := chd_le (G := G) (p := p) (w := 4)
    have l3 := chd_le (G := G) (p := p) (w := 3)
    refine hhigh (Or.inl h) _ (b66_86 hR rfl hp (fun h' => absurd h' hn1) (fun _ => b66_125 hR rfl hp (fun h' => absurd h' hn2) (fun _ => b66_178 hR rfl hp (fun h' => absurd h' hn4) (fun _ => b66_190 hR (r65 hR hp (by decide)) (t66_196 hR (fun h1 => ?_) (fun h1 => b66_199 hR (r65 hR hp (by decide)) (t66_205 hR (fun h2 => ?_) (fun h2 => b66_208 hR rfl hp (fun h3 => b66_230 hR ?_) (fun h3 => b66_217 hR (r65 hR hp (by decide)) (t66_223 hR (fun h4 => ?_) (fun h4 => ?_)))))))))))
    · rw [cv_neg l0.2] at h1
      simp only [chF, if_neg hn1, if_neg hn2, if_neg hn4, if_pos (Or.inl h1)]
    · rw [cv_pos l4.1 l4.2] at h2
      simp only [chF, if_neg hn1, if_neg hn2, if_neg hn4, if_pos (Or.inr (Or.inl h2))]
    · rw [cv_neg l0.2] at h1
      rw [cv_pos l4.1 l4.2] at h2
      simp only [chF, if_neg hn1, if_neg hn2, if_neg hn4]
      rw [if_neg (by rintro (h5 | h5 | ⟨h5, -⟩); exact h1 h5; exact h2 h5; exact h5 h3)]
    · rw [cv_neg l0.2] at h1
      rw [cv_pos l4.1 l4.2] at h2
      have h4' : ¬ 0 < cv (chd G p 3) := fun h' => absurd h4 (by rw [Int32.not_le]; exact h')
      rw [cv_pos l3.1 l3.2] at h4'
      simp only [chF, if_neg hn1, if_neg hn2, if_neg hn4]
      rw [if_neg (by rintro (h5 | h5 | ⟨-, h5⟩); exact h1 h5; exact h2 h5; exact h4' h5)]
    · have h4' : 0 < cv (chd G p 3) := by rw [← Int32.not_le]; exact h4
      rw [cv_pos l3.1 l3.2] at h4'
      simp only [chF, if_neg hn1, if_neg hn2, if_neg hn4, if_pos (Or.inr (Or.inr (And.intro h3 h4')))]
  · have hn1 : ¬ G 34 p = nI 1 := by grind
    have hn2 : ¬ G 34 p = nI 2 := by grind
    refine hhigh (Or.inr h) _ (b66_86 hR rfl hp (fun h' => absurd h' hn1) (fun _ => b66_125 hR rfl hp (fun h' => absurd h' hn2) (fun _ => b66_178 hR rfl hp (fun _ => b66_188 hR ?_) (fun h' => absurd h h'))))
    simp only [chF, if_neg hn1, if_neg hn2, if_pos h]
end R4
