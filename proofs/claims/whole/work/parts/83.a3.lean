/-! @83.a2@ the class: reaping; a call tried -/
theorem fst_eq {P : Nat → Bool} {i : Nat} (hi : P i = true) : ∀ {n k : Nat}, k ≤ i → i < k + n → (∀ j, k ≤ j → j < i → P j = false) → fst P k n = i
  | 0, k, h1, h2, _ => by omega
  | n + 1, k, h1, h2, h3 => by
    simp only [fst]
    by_cases e : k = i
    · subst e
      rw [if_pos hi]
    · rw [if_neg (by rw [h3 k (Nat.le_refl _) (by omega)]; decide)]
      exact fst_eq hi (by omega) (by omega) (fun j q1 q2 => h3 j (by omega) q2)
theorem fst_all {P : Nat → Bool} : ∀ {n k : Nat}, (∀ j, k ≤ j → j < k + n → P j = false) → fst P k n = k + n
  | 0, k, _ => rfl
  | n + 1, k, h => by
    simp only [fst]
    rw [if_neg (by rw [h k (Nat.le_refl _) (by omega)]; decide), fst_all (fun j q1 q2 => h j (by omega) (by omega))]
    omega
theorem fit_03 {H : Nat → Nat → Int32} {p k : Nat} (h : fitc H p 3 k = true) : fitc H p 0 k = true := by
  simp only [fitc, if_neg (show ¬ (3 : Nat) = 0 by decide), if_true, Bool.and_eq_true, decide_eq_true_eq] at h
  simp only [fitc, if_true, Bool.and_eq_true, Bool.not_eq_true', decide_eq_false_iff_not, decide_eq_true_eq]
  exact ⟨by rw [h.1.1]; decide, h.2⟩
section A3S
variable {ns d x : Nat} {R : Nat → Nat → Nat → Option (Nat × Nat)} {Z A : Nat → Nat → Nat → Int32} {Y : Nat → Nat → Nat → Int64} {o : Int64} {c g : Nat → Int64} {G : Nat → Nat → Int32} {H : Nat → Nat → Int32} {h : Nat → Int64}
theorem c44w (hR : RS R) (hr : Rel A c H h) {p : Nat} (hp : p < 8) (i2 : I2 H) (i7 : ∀ k, k < 8 → H 21 k = nI 4 → H 34 k = nI 0) (h34 : H 34 p = nI 3) {Q : pm_O × pm_M → Prop} (q0 : chF H p = 0 → Q (.inl (some (pm_i (-nI 9))), mm x R Z Y o A c G g)) (q1 : chF H p = 1 → ∀ A', Rel A' c (rpF H p) h → Q (.inl (some (pm_i (rpV H p))), mm x R Z Y o A' c G g)) : pW ns d 44 0 (pm_ent [pm_r 0 0, pm_r 8 p] ++ List.replicate (pm_maxL 44 - (pm_ent [pm_r 0 0, pm_r 8 p]).length) none) [] (mm x R Z Y o A c G g) Q := by
  have nd := nd
  have h0 := nI_0
  have hn1 : ¬ H 34 p = nI 1 := by grind
  have hn2 : ¬ H 34 p = nI 2 := by grind
  have hn4 : ¬ H 34 p = nI 4 := by grind
  have hch : chF H p = if chd H p 0 = 8 ∨ chd H p 4 ≠ 8 ∨ (¬ H 38 p = 0 ∧ chd H p 3 ≠ 8) then 1 else 0 := by
    simp only [chF, if_neg hn1, if_neg hn2, if_neg hn4]
  have eno := r_no hr hp
  have e4 := r_k4 hr hp
  have chd8 : ∀ w, (∀ j, 1 ≤ j → j < 8 → fitc H p w j = false) → chd H p w = 8 := fun w hw => fst_all (fun j a b => hw j a (by omega))
  have chdi : ∀ w i, fitc H p w i = true → 1 ≤ i → i < 8 → (∀ j, 1 ≤ j → j < i → fitc H p w j = false) → chd H p w = i := fun w i a b c e => fst_eq a b (by omega) e
  have chdn : ∀ w i, fitc H p w i = true → 1 ≤ i → i < 8 → chd H p w ≠ 8 := by
    intro w i a b c e
    have := fst_no (P := fitc H p w) (n := 7) (k := 1) i b (by rw [show fst (fitc H p w) 1 7 = 8 from e]; exact c)
    rw [a] at this
    cases this
  -- what the class sees of a process
  have see : ∀ k, k < 8 → ¬ H 21 k = 0 → (A 8 k 7 = A 8 p 0 ↔ (1 ≤ k ∧ H 22 k = nI p)) := by
    intro k hk hz
    rw [r_7 hr hk (by rw [h0]; exact hz), eno]
    by_cases e : k = 0
    · subst e
      rw [i2.2]
      constructor
      · intro e
        exfalso
        rcases (show p = 0 ∨ p = 1 ∨ p = 2 ∨ p = 3 ∨ p = 4 ∨ p = 5 ∨ p = 6 ∨ p = 7 by omega) with e' | e' | e' | e' | e' | e' | e' | e' <;> subst e' <;> exact absurd e (by decide)
      · rintro ⟨e, -⟩
        omega
    · exact ⟨fun e' => ⟨by omega, e'⟩, fun e' => e'.2⟩
  have f0 : ∀ k, fitc H p 0 k = (!decide (H 21 k = 0) && decide (H 22 k = nI p)) := fun k => rfl
  have f3 : ∀ k, fitc H p 3 k = ((decide (H 21 k = nI 3) && decide (H 31 k = 0)) && decide (H 22 k = nI p)) := fun k => rfl
  have f4 : ∀ k, fitc H p 4 k = (decide (H 21 k = nI 4) && decide (H 22 k = nI p)) := fun k => rfl
  have zom : ∀ k, 1 ≤ k → k < 8 → H 22 k = nI p → H 21 k = nI 4 → (∀ j, 1 ≤ j → j < k → fitc H p 4 j = false) → ∀ u0 u1 u2 u3, pW ns d 44 57 [u0, u1, u2, u3, some (pm_i (nI k)), some (pm_r 8 k)] [] (mm x R Z Y o A c G g) Q := by
    intro k hk1 hk hpar hz hno u0 u1 u2 u3
    have hf : fitc H p 4 k = true := by rw [f4]; simp [hz, hpar]
    have e4 : chd H p 4 = k := chdi 4 k hf hk1 hk hno
    have e0 : ¬ chd H p 0 = 8 := chdn 0 k (by rw [f0, hz]; simp [hpar]; decide) hk1 hk
    have ev : rpV H p = nI k + nI 8 * H 29 k := by
      unfold rpV
      rw [if_neg e0, e4, if_pos (by omega)]
    have ef : rpF H p = pm_v H 21 k (nI 0) := by
      unfold rpF
      rw [if_neg e0, e4, if_pos (by omega)]
    have e14 := (hr.2.1 k hk).2.2.1 hz
    have hq := q1 (by rw [hch, if_pos (Or.inr (Or.inl (by omega)))])
    rw [ev, ef] at hq
    refine b44_57 hR hk ?_
    rw [u_ne (by omega), e14]
    exact hq _ (rl_21 hk hr (fun e => absurd rfl e) (fun e => absurd e (by decide)) (fun e => absurd e (by decide)) (fun e => absurd (i7 k hk hz) e))
  -- one that has stopped has been seen
  have key2 : ∀ n k, k + n = 8 → ∀ i, 1 ≤ i → i < k → fitc H p 3 i = true → (∀ j, 1 ≤ j → j < i → fitc H p 3 j = false) → (∀ j, 1 ≤ j → j < k → fitc H p 4 j = false) → ∀ u5, pW ns d 44 7 [some (pm_r 0 0), some (pm_r 8 p), some (pm_i (nI 1)), some (pm_r 8 i), some (pm_i (nI k)), u5] [] (mm x R Z Y o A c G g) Q := by
    intro n
    induction n with
    | zero =>
      intro k hk i hi1 hik hf hno3 hno4 u5
      have : k = 8 := by omega
      subst this
      have e0 : ¬ chd H p 0 = 8 := chdn 0 i (fit_03 hf) hi1 (by omega)
      have e4' : chd H p 4 = 8 := chd8 4 hno4
      have e3 : chd H p 3 = i := chdi 3 i hf hi1 (by omega) hno3
      refine t44_7a hR hp (by omega) (fun _ _ k => absurd k (by decide)) (fun _ k _ => ?_) (fun _ k => ?_) (fun k => absurd (by decide) k)
      · rw [e4] at k
        exact q0 (by rw [hch, if_neg (by rintro (e | e | e); exact e0 e; exact e e4'; exact e.1 k)])
      · rw [e4] at k
        have hq := q1 (by rw [hch, if_pos (Or.inr (Or.inr ⟨k, by omega⟩))])
        have ev : rpV H p = nI i + nI 1024 := by
          unfold rpV
          rw [if_neg e0, if_neg (by omega), e3]
        have ef : rpF H p = pm_v H 31 i (nI 1) := by
          unfold rpF
          rw [if_neg e0, if_neg (by omega), e3]
        rw [ev, ef] at hq
        rw [u_ne (by omega), r_no hr (by omega)]
        exact hq _ (rl_15 (by omega) hr)
    | succ n ih =>
      intro k hk i hi1 hik hf hno3 hno4 u5
      have hk8 : k < 8 := by omega
      have hi8 : i < 8 := by omega
      have nx : fitc H p 4 k = false ∨ k = 0 → ∀ u5, pW ns d 44 7 [some (pm_r 0 0), some (pm_r 8 p), some (pm_i (nI 1)), some (pm_r 8 i), some (pm_i (nI k + nI 1)), u5] [] (mm x R Z Y o A c G g) Q := by
        intro hn u5
        rw [nI_s]
        refine ih (k + 1) (by omega) i hi1 (by omega) hf hno3 (fun j hj1 hj => ?_) _
        by_cases e : j = k
        · subst e
          rcases hn with hn | hn
          · exact hn
          · omega
        · exact hno4 j hj1 (by omega)
      refine t44_7a hR hp hi8 (fun k => absurd k (nI_ge hk8 (by decide))) (fun k => absurd k (nI_ge hk8 (by decide))) (fun k => absurd k (nI_ge hk8 (by decide))) (fun _ => b44_14a hR hp hi8 rfl hk8 (fun q => b44_99a hR hp hi8 (nx ?_ _)) (fun q => b44_31a hR hp hi8 hk8 (fun q2 => b44_46a hR hp hi8 hk8 (fun q3 => ?_) (fun q3 => b44_75a hR hp hi8 hk8 (nx ?_ _))) (fun q2 => b44_43a hR hp hi8 (nx ?_ _))))
      · rw [r_6 hr hk8] at q
        left
        rw [f4, q]
        simp
        intro e
        exact absurd e (by decide)
      · rw [r_6 hr hk8] at q q3
        have := (see k hk8 q).mp q2
        exact zom k this.1 hk8 this.2 q3 hno4 _ _ _ _
      · rw [r_6 hr hk8] at q3
        left
        rw [f4]
        simp [q3]
      · rw [r_6 hr hk8] at q
        have := mt (see k hk8 q).mpr q2
        by_cases e : k = 0
        · exact Or.inr e
        · left
          rw [f4]
          have : ¬ H 22 k = nI p := fun e' => this ⟨by omega, e'⟩
          simp [this]
  -- none that has stopped has been seen
  have key1 : ∀ n k, k + n = 8 → ∀ b : Bool, (b = true ↔ ∃ j, 1 ≤ j ∧ j < k ∧ fitc H p 0 j = true) → (∀ j, 1 ≤ j → j < k → fitc H p 3 j = false) → (∀ j, 1 ≤ j → j < k → fitc H p 4 j = false) → ∀ u5, pW ns d 44 7 [some (pm_r 0 0), some (pm_r 8 p), some (pm_i (bI b)), some (pm_a none), some (pm_i (nI k)), u5] [] (mm x R Z Y o A c G g) Q := by
    intro n
    induction n with
    | zero =>
      intro k hk b hb hno3 hno4 u5
      have : k = 8 := by omega
      subst this
      refine t44_7 hR hp (fun _ q => ?_) (fun _ q => ?_) (fun k => absurd (by decide) k)
      · have hb0 := bI_0.mp q
        have e0 : chd H p 0 = 8 := chd8 0 (fun j hj1 hj => by
          cases hh : fitc H p 0 j with
          | false => rfl
          | true =>
            rw [hb.mpr ⟨j, hj1, hj, hh⟩] at hb0
            cases hb0)
        have hq := q1 (by rw [hch, if_pos (Or.inl e0)])
        have ev : rpV H p = -nI 3 := by
          unfold rpV
          rw [if_pos e0]
        have ef : rpF H p = H := by
          unfold rpF
          rw [if_pos e0]
        rw [ev, ef] at hq
        exact hq A hr
      · obtain ⟨j, hj1, hj, hf⟩ := hb.mp (bI_n0.mp q)
        exact q0 (by rw [hch, if_neg (by rintro (e | e | e); exact chdn 0 j hf hj1 hj e; exact e (chd8 4 hno4); exact e.2 (chd8 3 hno3))])
    | succ n ih =>
      intro k hk b hb hno3 hno4 u5
      have hk8 : k < 8 := by omega
      have nx : (fitc H p 3 k = false ∧ fitc H p 4 k = false ∧ (b = true ∨ fitc H p 0 k = false)) ∨ k = 0 → ∀ u5, pW ns d 44 7 [some (pm_r 0 0), some (pm_r 8 p), some (pm_i (bI b)), some (pm_a none), some (pm_i (nI k + nI 1)), u5] [] (mm x R Z Y o A c G g) Q := by
        intro hn u5
        rw [nI_s]
        refine ih (k + 1) (by omega) b ?_ (fun j hj1 hj => ?_) (fun j hj1 hj => ?_) _
        · rw [hb]
          constructor
          · rintro ⟨j, a, b', e⟩
            exact ⟨j, a, by omega, e⟩
          · rintro ⟨j, a, b', e⟩
            by_cases ej : j = k
            · subst ej
              rcases hn with ⟨-, -, hn | hn⟩ | hn
              · exact hb.mp hn
              · rw [e] at hn
                cases hn
              · omega
            · exact ⟨j, a, by omega, e⟩
        · by_cases e : j = k
          · subst e
            rcases hn with hn | hn
            · exact hn.1
            · omega
          · exact hno3 j hj1 (by omega)
        · by_cases e : j = k
          · subst e
            rcases hn with hn | hn
            · exact hn.2.1
            · omega
          · exact hno4 j hj1 (by omega)
      have nx1 : 1 ≤ k → fitc H p 0 k = true → fitc H p 3 k = false → fitc H p 4 k = false → ∀ u5, pW ns d 44 7 [some (pm_r 0 0), some (pm_r 8 p), some (pm_i (nI 1)), some (pm_a none), some (pm_i (nI k + nI 1)), u5] [] (mm x R Z Y o A c G g) Q := by
        intro hk1 hf0 hf3 hf4 u5
        rw [nI_s]
        refine ih (k + 1) (by omega) true ⟨fun _ => ⟨k, hk1, by omega, hf0⟩, fun _ => rfl⟩ (fun j hj1 hj => ?_) (fun j hj1 hj => ?_) _
        · by_cases e : j = k
          · rw [e]
            exact hf3
          · exact hno3 j hj1 (by omega)
        · by_cases e : j = k
          · rw [e]
            exact hf4
          · exact hno4 j hj1 (by omega)
      refine t44_7 hR hp (fun k => absurd k (nI_ge hk8 (by decide))) (fun k => absurd k (nI_ge hk8 (by decide))) (fun _ => b44_14 hR hp rfl hk8 (fun q => b44_99 hR hp (nx ?_ _)) (fun q => b44_31 hR hp hk8 (fun q2 => b44_46 hR hp hk8 (fun q3 => ?_) (fun q3 => b44_75 hR hp hk8 (fun q4 => b44_88 hR hp hk8 (fun q5 => b44_96 hR hp hk8 ?_) (fun q5 => b44_99 hR hp ?_)) (fun q4 => b44_99 hR hp ?_))) (fun q2 => b44_43 hR hp (nx ?_ _))))
      · rw [r_6 hr hk8] at q
        left
        rw [f0, f3, f4, q]
        refine ⟨?_, ?_, ?_⟩
        · simp
          intro e
          exact absurd e (by decide)
        · simp
          intro e
          exact absurd e (by decide)
        · simp
      · rw [r_6 hr hk8] at q q3
        have := (see k hk8 q).mp q2
        exact zom k this.1 hk8 this.2 q3 hno4 _ _ _ _
      · rw [r_6 hr hk8] at q q3 q4
        have e15 := (hr.2.1 k hk8).2.2.2.1 q4
        rw [e15] at q5
        have hs := (see k hk8 q).mp q2
        rw [nI_s]
        exact key2 n (k + 1) (by omega) k hs.1 (by omega) (by rw [f3]; simp [q4, q5, hs.2]) hno3 (fun j hj1 hj => by
          by_cases e : j = k
          · subst e
            rw [f4]
            simp [q3]
          · exact hno4 j hj1 (by omega)) _
      · rw [r_6 hr hk8] at q q3 q4
        have e15 := (hr.2.1 k hk8).2.2.2.1 q4
        rw [e15] at q5
        have hs := (see k hk8 q).mp q2
        exact nx1 hs.1 (by rw [f0]; simp [q, hs.2]) (by rw [f3]; simp [q5]) (by rw [f4]; simp [q3]) _
      · rw [r_6 hr hk8] at q q3 q4
        have hs := (see k hk8 q).mp q2
        exact nx1 hs.1 (by rw [f0]; simp [q, hs.2]) (by rw [f3]; simp [q4]) (by rw [f4]; simp [q3]) _
      · rw [r_6 hr hk8] at q
        have := mt (see k hk8 q).mpr q2
        by_cases e : k = 0
        · exact Or.inr e
        · left
          have : ¬ H 22 k = nI p := fun e' => this ⟨by omega, e'⟩
          rw [f0, f3, f4]
          simp [this]
  exact b44_0 hR hp (key1 8 0 rfl false ⟨fun e => absurd e (by decide), fun e => by obtain ⟨j, a, b, -⟩ := e; omega⟩ (fun j a b => by omega) (fun j a b => by omega) _)
/-- a call tried: nothing done, INPUT drawn, or done as in the reference -/
theorem c40 (hR : RS R) (hr : Rel A c H h) {p t : Nat} (hp : p < 8) (i1 : I1 H) (i2 : I2 H) (i3 : I3 H) (i7 : ∀ k, k < 8 → H 21 k = nI 4 → H 34 k = nI 0) (hc : Cl H p) (i10 : I10 H) (h11 : I11 H) (hw : ∃ w, w ≤ t ∧ H 20 28 = nI w) (ht : t < 2 ^ 30) (h34 : H 34 p = nI 1 ∨ H 34 p = nI 2 ∨ H 34 p = nI 3 ∨ H 34 p = nI 4) : (chF H p = 0 → pE ns (d + 5) 40 [pm_r 0 0, pm_r 8 p] (mm x R Z Y o A c G g) (.inl (some (pm_i (-nI 9))), mm x R Z Y o A c G g)) ∧ (chF H p = 2 → pE ns (d + 5) 40 [pm_r 0 0, pm_r 8 p] (mm x R Z Y o A c G g) (.inl (some (pm_i (-nI 10))), mm x R Z Y o A c G g)) ∧ (chF H p = 1 → cX ns (d + 5) 40 [pm_r 0 0, pm_r 8 p] x R Z Y o A c G g (.inl (some (pm_i (pfV H p)))) (pfF H (h p) p) h) := by
  have nd := nd
  have e0 := r_k0 hr hp
  have t1 : (nI 1).toInt = 1 := by decide
  have t2 : (nI 2).toInt = 2 := by decide
  have t3 : (nI 3).toInt = 3 := by decide
  have t4 : (nI 4).toInt = 4 := by decide
  rcases h34 with e | e | e | e
  · obtain ⟨q1, q2, q3⟩ := c41 (ns := ns) (d := d) (x := x) (Z := Z) (Y := Y) (o := o) (G := G) (g := g) (b := h p) hR hr hp i1 i2 i3 hc i10 h11 e
    rw [e] at e0
    refine ⟨fun k => ?_, fun k => ?_, fun k => ?_⟩
    · exact en rfl (b40_0 hR hp (fun _ => b40_32 hR hp (q1 k) (b40_37 hR rfl)) (fun k' => absurd k' (by rw [e0, t1]; decide)) (fun k' => absurd k' (by rw [e0, t1]; decide)) (fun k' => absurd (by rw [e0, t1]) k'))
    · exact en rfl (b40_0 hR hp (fun _ => b40_32 hR hp (q2 k) (b40_37 hR rfl)) (fun k' => absurd k' (by rw [e0, t1]; decide)) (fun k' => absurd k' (by rw [e0, t1]; decide)) (fun k' => absurd (by rw [e0, t1]) k'))
    · obtain ⟨A1, hr1, hE1⟩ := q3 k
      exact cxi rfl (b40_0 hR hp (fun _ => b40_32 hR hp hE1 (b40_37 hR ⟨A1, hr1, rfl⟩)) (fun k' => absurd k' (by rw [e0, t1]; decide)) (fun k' => absurd k' (by rw [e0, t1]; decide)) (fun k' => absurd (by rw [e0, t1]) k'))
  · obtain ⟨q1, q3⟩ := c43 (ns := ns) (d := d + 2) (x := x) (Z := Z) (Y := Y) (o := o) (G := G) (g := g) hR hr hp hc i10 hw ht e
    have hn1 : ¬ H 34 p = nI 1 := by grind
    have hn3 : ¬ H 34 p = nI 3 := by grind
    rw [e] at e0
    refine ⟨fun k => ?_, fun k => ?_, fun k => ?_⟩
    · exact en rfl (b40_0 hR hp (fun k' => absurd k' (by rw [e0, t2]; decide)) (fun _ => b40_38 hR hp (q1 k) (b40_43 hR rfl)) (fun k' => absurd k' (by rw [e0, t2]; decide)) (fun _ k' => absurd (by rw [e0, t2]) k'))
    · simp only [chF, if_neg hn1, if_pos e] at k
      split at k <;> cases k
    · obtain ⟨A1, hr1, hE1⟩ := q3 k
      have ev : pfV H p = gvV H p := by simp only [pfV, if_neg hn3, if_pos e]
      have ef : pfF H (h p) p = gvF H (h p) p := by simp only [pfF, if_neg hn3, if_pos e]
      rw [ev, ef]
      exact cxi rfl (b40_0 hR hp (fun k' => absurd k' (by rw [e0, t2]; decide)) (fun _ => b40_38 hR hp hE1 (b40_43 hR ⟨A1, hr1, rfl⟩)) (fun k' => absurd k' (by rw [e0, t2]; decide)) (fun _ k' => absurd (by rw [e0, t2]) k'))
  · have hn1 : ¬ H 34 p = nI 1 := by grind
    have hn2 : ¬ H 34 p = nI 2 := by grind
    have hn4 : ¬ H 34 p = nI 4 := by grind
    rw [e] at e0
    refine ⟨fun k => ?_, fun k => ?_, fun k => ?_⟩
    · have hE : pE ns (d + 3 + 1) 44 [pm_r 0 0, pm_r 8 p] (mm x R Z Y o A c G g) (.inl (some (pm_i (-nI 9))), mm x R Z Y o A c G g) := en rfl (c44w hR hr hp i2 i7 e (fun _ => rfl) (fun k' => absurd (k.symm.trans k') (by decide)))
      exact en rfl (b40_0 hR hp (fun k' => absurd k' (by rw [e0, t3]; decide)) (fun k' => absurd k' (by rw [e0, t3]; decide)) (fun _ => b40_44 hR hp hE (b40_49 hR rfl)) (fun _ _ k' => absurd (by rw [e0, t3]) k'))
    · simp only [chF, if_neg hn1, if_neg hn2, if_neg hn4] at k
      split at k <;> cases k
    · obtain ⟨A1, hr1, hE1⟩ : cX ns (d + 3 + 1) 44 [pm_r 0 0, pm_r 8 p] x R Z Y o A c G g (.inl (some (pm_i (rpV H p)))) (rpF H p) h := cxi rfl (c44w hR hr hp i2 i7 e (fun k' => absurd (k.symm.trans k') (by decide)) (fun _ A' hA' => ⟨A', hA', rfl⟩))
      have ev : pfV H p = rpV H p := by simp only [pfV, if_pos e]
      have ef : pfF H (h p) p = rpF H p := by simp only [pfF, if_pos e]
      rw [ev, ef]
      exact cxi rfl (b40_0 hR hp (fun k' => absurd k' (by rw [e0, t3]; decide)) (fun k' => absurd k' (by rw [e0, t3]; decide)) (fun _ => b40_44 hR hp hE1 (b40_49 hR ⟨A1, hr1, rfl⟩)) (fun _ _ k' => absurd (by rw [e0, t3]) k'))
  · have hch : chF H p = 0 := by rw [chF_W, e]; rfl
    rw [e] at e0
    refine ⟨fun k => ?_, fun k => absurd (hch.symm.trans k) (by decide), fun k => absurd (hch.symm.trans k) (by decide)⟩
    exact en rfl (b40_0 hR hp (fun k' => absurd k' (by rw [e0, t4]; decide)) (fun k' => absurd k' (by rw [e0, t4]; decide)) (fun k' => absurd k' (by rw [e0, t4]; decide)) (fun _ _ _ => b40_50 hR rfl))
end A3S
