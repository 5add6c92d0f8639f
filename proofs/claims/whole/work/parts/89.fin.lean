/-! @88.c2@ the law from its beginning to its end (the first part printed by wip/whole/gen/ctor.py) -/
def Fi0 (xs : Nat → Int32) : Nat → Nat → Nat → Int32 := fun f i j => if f = 99 ∧ i = 0 then xs j else 0
def Rn : Nat → Nat → Nat → Option (Nat × Nat) := fun _ _ _ => none
theorem Fi0_z {xs : Nat → Int32} {f i k : Nat} (h : f ≠ 99) : Fi0 xs f i k = nI 0 := by
  unfold Fi0
  rw [if_neg (by omega)]
  rfl
theorem FJ_hi {xs : Nat → Int32} {f i k : Nat} (h : 16 ≤ f) (h9 : f ≠ 99) : FJ (Fi0 xs) f i k = nI 0 := by
  unfold FJ
  rw [u_ne (by omega), u_ne (by omega), u_ne (by omega)]
  exact FT_z (Fi0_z h9) (by omega)
theorem FM_hi {F : Nat → Nat → Nat → Int32} {f i k : Nat} (h : f ≠ 21 ∧ f ≠ 22 ∧ f ≠ 32) : FM F f i k = F f i k := by
  unfold FM
  rw [u_ne (by omega), u_ne (by omega), u_ne (by omega), u_ne (by omega)]
def Rf : Nat → Nat → Nat → Option (Nat × Nat) := (pm_z (RM (pm_z (Rc0 (pm_z Rn 0 0 none)) 20 0 none)) 60 0 none)
def Ff (xs : Nat → Int32) : Nat → Nat → Nat → Int32 := FM (FJ (Fi0 xs))
set_option maxRecDepth 20000 in
theorem law_in {ns : Nat} {xs : Nat → Int32} {Q : pm_O × pm_M → Prop} (k : pW ns 12 146 23 [some (pm_r 99 0), some (pm_r 0 0), some (pm_r 20 0), some (pm_r 60 0), some (pm_i (nI 0)), none, none] [] (Ff xs, B0, Rf, 96, 0) Q) : pW ns 12 146 0 [some (pm_r 99 0), none, none, none, none, none, none] [] (Fi0 xs, B0, Rn, 0, 0) Q := by
  refine pW_eq (pc' := 3) (L' := [some (pm_r 99 0), none, none, none, none, none, none]) (S' := [pm_r 0 0]) (M' := (pm_z (Fi0 xs) 0 0 0, pm_z B0 0 0 0, pm_z Rn 0 0 none, 1, 0)) 1 (fun call n => rfl) ?_
  rw [zF (F := (Fi0 xs)) (f := 0) (i := 0) (fun k0 => (Fi0_z (by decide))), zB]
  refine pW_call (pc' := 4) (r := [pm_r 0 0]) (L' := [some (pm_r 99 0), none, none, none, none, none, none]) (M' := ((Fi0 xs), B0, (pm_z Rn 0 0 none), 1, 0)) 2 (fun call n => rfl) (k0 (d := 9) (fun f0 i0 k0 h0 => Fi0_z h0)) ?_
  refine pW_eq (pc' := 11) (L' := [some (pm_r 99 0), some (pm_r 0 0), none, none, none, none, none]) (S' := [pm_r 20 0]) (M' := (pm_z (FJ (Fi0 xs)) 20 0 0, pm_z B0 20 0 0, pm_z (Rc0 (pm_z Rn 0 0 none)) 20 0 none, 69, 0)) 2 (fun call n => rfl) ?_
  rw [zF (F := (FJ (Fi0 xs))) (f := 20) (i := 0) (fun k0 => (FJ_hi (by decide) (by decide))), zB]
  refine pW_call (pc' := 12) (r := [pm_r 20 0]) (L' := [some (pm_r 99 0), some (pm_r 0 0), none, none, none, none, none]) (M' := ((FJ (Fi0 xs)), B0, (pm_z (Rc0 (pm_z Rn 0 0 none)) 20 0 none), 69, 0)) 2 (fun call n => rfl) (k45 (d := 11) (fun f0 k0 h1 h2 => FJ_hi (by omega) (by omega))) ?_
  refine pW_eq (pc' := 19) (L' := [some (pm_r 99 0), some (pm_r 0 0), some (pm_r 20 0), none, none, none, none]) (S' := [pm_r 60 0]) (M' := (pm_z (FM (FJ (Fi0 xs))) 60 0 0, pm_z B0 60 0 0, pm_z (RM (pm_z (Rc0 (pm_z Rn 0 0 none)) 20 0 none)) 60 0 none, 96, 0)) 3 (fun call n => rfl) ?_
  rw [zF (F := (FM (FJ (Fi0 xs)))) (f := 60) (i := 0) (fun k0 => ((FM_hi (by decide)).trans (FJ_hi (by decide) (by decide)))), zB]
  refine pW_eq (pc' := 23) (L' := [some (pm_r 99 0), some (pm_r 0 0), some (pm_r 20 0), some (pm_r 60 0), some (pm_i (nI 0)), none, none]) (S' := []) (M' := ((FM (FJ (Fi0 xs))), B0, (pm_z (RM (pm_z (Rc0 (pm_z Rn 0 0 none)) 20 0 none)) 60 0 none), 96, 0)) 3 (fun call n => rfl) ?_
  exact k
set_option maxRecDepth 20000 in
theorem rs_f : RS Rf := by
  refine ⟨fun k hk => ?_, fun k hk => ?_, fun k hk => ?_, ⟨rfl, rfl, rfl⟩, fun i hi => ?_, rfl, fun i hi k hk => ?_, fun k hk h0 h20 h25 h26 h27 h28 => ?_⟩
  · rcases (show k = 0 ∨ k = 1 ∨ k = 2 by omega) with e | e | e <;> subst e <;> rfl
  · rcases (show k = 0 ∨ k = 1 ∨ k = 2 ∨ k = 3 ∨ k = 4 ∨ k = 5 ∨ k = 6 ∨ k = 7 by omega) with e | e | e | e | e | e | e | e <;> subst e <;> rfl
  · rcases (show k = 0 ∨ k = 1 ∨ k = 2 ∨ k = 3 ∨ k = 4 ∨ k = 5 by omega) with e | e | e | e | e | e <;> subst e <;> rfl
  · rcases (show i = 0 ∨ i = 1 ∨ i = 2 ∨ i = 3 ∨ i = 4 ∨ i = 5 by omega) with e | e | e | e | e | e <;> subst e <;> rfl
  · rcases (show k = 0 ∨ k = 1 ∨ k = 2 ∨ k = 3 ∨ k = 4 by omega) with e | e | e | e | e <;> subst e <;> (rcases (show i = 0 ∨ i = 1 ∨ i = 2 ∨ i = 3 ∨ i = 4 ∨ i = 5 ∨ i = 6 ∨ i = 7 by omega) with e | e | e | e | e | e | e | e <;> subst e <;> rfl)
  · rcases (show k = 1 ∨ k = 2 ∨ k = 3 ∨ k = 4 ∨ k = 5 ∨ k = 6 ∨ k = 7 ∨ k = 8 ∨ k = 9 ∨ k = 10 ∨ k = 11 ∨ k = 12 ∨ k = 13 ∨ k = 14 ∨ k = 15 ∨ k = 16 ∨ k = 17 ∨ k = 18 ∨ k = 19 ∨ k = 21 ∨ k = 22 ∨ k = 23 ∨ k = 24 ∨ k = 29 ∨ k = 30 ∨ k = 31 by omega) with e | e | e | e | e | e | e | e | e | e | e | e | e | e | e | e | e | e | e | e | e | e | e | e | e | e <;> subst e <;> rfl
/-- the reference's ints at the beginning -/
def Gf (xs : Nat → Int32) : Nat → Nat → Int32 := fun f k => Ff xs f 0 k
theorem gf_v {xs : Nat → Int32} {f k : Nat} (h1 : 20 ≤ f) (h2 : f < 60) : Gf xs f k = if f = 32 ∧ k < 2 then nI 1 else if f = 22 ∧ k = 0 then -nI 1 else if f = 21 ∧ k = 0 then nI 1 else nI 0 := by
  have e := FJ_hi (xs := xs) (f := f) (i := 0) (k := k) (by omega) (by omega)
  unfold Gf Ff FM pm_u
  by_cases a : f = 32 ∧ k < 2
  · rw [if_pos a]
    by_cases b : k = 1
    · rw [if_pos ⟨a.1, rfl, b⟩]
    · rw [if_neg (by omega), if_pos ⟨a.1, rfl, by omega⟩]
  · rw [if_neg a, if_neg (by omega), if_neg (by omega)]
    by_cases b : f = 22 ∧ k = 0
    · rw [if_pos b, if_pos ⟨b.1, rfl, b.2⟩]
    · rw [if_neg b, if_neg (by omega)]
      by_cases c : f = 21 ∧ k = 0
      · rw [if_pos c, if_pos ⟨c.1, rfl, c.2⟩]
      · rw [if_neg c, if_neg (by omega)]
        exact e
theorem gf_0 {xs : Nat → Int32} {f k : Nat} (h1 : 20 ≤ f) (h2 : f < 60) (h : ¬ (f = 32 ∧ k < 2) ∧ ¬ (f = 22 ∧ k = 0) ∧ ¬ (f = 21 ∧ k = 0)) : Gf xs f k = nI 0 := by
  rw [gf_v h1 h2, if_neg h.1, if_neg h.2.1, if_neg h.2.2]
theorem gf_21 {xs : Nat → Int32} {p : Nat} : Gf xs 21 p = if p = 0 then nI 1 else nI 0 := by
  rw [gf_v (by decide) (by decide), if_neg (by omega), if_neg (by omega)]
  by_cases e : p = 0
  · rw [if_pos e, if_pos ⟨rfl, e⟩]
  · rw [if_neg e, if_neg (by omega)]
theorem gd_f (xs : Nat → Int32) : Gd 0 (Gf xs) := by
  have nd := nd
  have e21 := fun p => gf_21 (xs := xs) (p := p)
  have z34 : ∀ p, Gf xs 34 p = nI 0 := fun p => gf_0 (by decide) (by decide) (by omega)
  have z25 : ∀ p, Gf xs 25 p = nI 0 := fun p => gf_0 (by decide) (by decide) (by omega)
  have z33 : ∀ p, Gf xs 33 p = nI 0 := fun p => gf_0 (by decide) (by decide) (by omega)
  have n2 : ∀ p, Gf xs 21 p ≠ nI 2 := fun p => by rw [e21]; split <;> grind
  have n3 : ∀ p, Gf xs 21 p ≠ nI 3 := fun p => by rw [e21]; split <;> grind
  refine ⟨⟨⟨?_, ?_, ?_, ?_, ?_, ?_, ?_, ?_⟩, ?_, ?_, ?_, ?_, ?_⟩, ?_, ?_, ?_, ?_⟩
  · intro p hp
    rw [e21]
    split
    · exact Or.inr (Or.inl rfl)
    · exact Or.inl rfl
  · refine ⟨Or.inl (by rw [e21, if_pos rfl]), ?_⟩
    rw [gf_v (by decide) (by decide), if_neg (by omega), if_pos ⟨rfl, rfl⟩]
  · intro p h1 hp hz
    rw [e21, if_neg (by omega)] at hz
    exact absurd rfl hz
  · intro p hp s hs
    exact Or.inl (z33 _)
  · intro p hp _ _ s hs1 hs
    rw [due_iff hs, z25, bt_0]
    rfl
  · intro p hp s hs1 hs h
    rw [z25, bt_0]
  · intro p hp
    exact ⟨Or.inl (z34 p), fun h => absurd h (n2 p), fun _ _ => z34 p, fun h => absurd h (n3 p)⟩
  · intro p hp
    exact ⟨0, Nat.le_refl _, gf_0 (by decide) (by decide) (by omega)⟩
  · intro p hp
    refine ⟨0, by decide, gf_0 (by decide) (by decide) (by omega), ⟨0, by decide, gf_0 (by decide) (by decide) (by omega), ?_⟩, ?_, ?_⟩
    · rw [z34]
      intro h
      grind
    · rw [z34]
      intro h
      grind
    · rw [z34]
      intro h
      grind
  · intro k hk
    rw [gf_v (by decide) (by decide)]
    split
    · exact ⟨1, by decide, rfl⟩
    · rw [if_neg (by omega), if_neg (by omega)]
      exact ⟨0, by decide, rfl⟩
  · intro k hk
    exact ⟨0, by decide, gf_0 (by decide) (by decide) (by omega)⟩
  · refine ⟨0, 0, by decide, gf_0 (by decide) (by decide) (by omega), gf_0 (by decide) (by decide) (by omega), by simp [sumL], fun k hk => ⟨0, by decide, gf_0 (by decide) (by decide) (by omega)⟩⟩
  · exact ⟨⟨0, Nat.le_refl _, gf_0 (by decide) (by decide) (by omega)⟩, 0, Nat.le_refl _, gf_0 (by decide) (by decide) (by omega), fun p hp h => absurd (z34 p) h, fun p q hp hq _ h => absurd (z34 p) h⟩
  · intro p hp
    exact ⟨0, by decide, gf_0 (by decide) (by decide) (by omega)⟩
  · intro p hp
    exact ⟨0, by decide, gf_0 (by decide) (by decide) (by omega)⟩
  · exact sel_no (fun q hq h2 => absurd h2 (n2 q))
  · exact gf_0 (by decide) (by decide) (by omega)
theorem ff_lo {xs : Nat → Int32} {f i k : Nat} (h : f < 20) : Ff xs f i k = if f = 9 ∧ i = 0 ∧ k < 2 then nI 1 else if f = 8 ∧ i = 0 ∧ k = 6 then nI 1 else if f = 8 ∧ i < 8 ∧ k = 0 then nI i else if f = 8 ∧ i < 8 ∧ k = 7 then -nI 1 else nI 0 := by
  unfold Ff
  rw [FM_hi (by omega)]
  unfold FJ
  by_cases a : f = 9 ∧ i = 0 ∧ k < 2
  · rw [if_pos a]
    obtain ⟨rfl, rfl, hk⟩ := a
    by_cases b : k = 1
    · subst b
      rw [u_eq]
    · rw [u_ne (by omega), show k = 0 by omega, u_eq]
  · rw [if_neg a, u_ne (by omega), u_ne (by omega)]
    by_cases b : f = 8 ∧ i = 0 ∧ k = 6
    · rw [if_pos b]
      obtain ⟨rfl, rfl, rfl⟩ := b
      rw [u_eq]
    · rw [if_neg b, u_ne (by omega)]
      unfold FT
      rw [Fi0_z (by omega)]
theorem tr_rg {f i k : Nat} {y : Nat × Nat} (h : tr f i k = some y) : 20 ≤ y.1 ∧ y.1 < 60 := by
  have e := (tr_in h).1
  by_cases hy : 20 ≤ y.1 ∧ y.1 < 60
  · exact hy
  · exfalso
    have e2 : ti y = (15, 0, y.2) := by
      unfold ti
      simp [show y.1 ≠ 21 by omega, show y.1 ≠ 23 by omega, show y.1 ≠ 24 by omega, show y.1 ≠ 25 by omega, show y.1 ≠ 26 by omega, show y.1 ≠ 27 by omega, show y.1 ≠ 28 by omega, show y.1 ≠ 32 by omega, show y.1 ≠ 33 by omega, show y.1 ≠ 41 by omega, show y.1 ≠ 40 by omega, show y.1 ≠ 34 by omega, show y.1 ≠ 35 by omega, show y.1 ≠ 36 by omega, show y.1 ≠ 38 by omega, show y.1 ≠ 20 by omega, show y.1 ≠ 43 by omega, show y.1 ≠ 42 by omega, show y.1 ≠ 45 by omega]
    rw [e] at e2
    simp only [Prod.mk.injEq] at e2
    obtain ⟨rfl, rfl, -⟩ := e2
    unfold tr at h
    simp at h
    obtain ⟨-, rfl⟩ := h
    simp at hy
theorem rel_f (xs : Nat → Int32) (c g : Nat → Int64) : Rel (Ff xs) c (Gf xs) g := by
  have nd := nd
  have z34 : ∀ p, Gf xs 34 p = nI 0 := fun p => gf_0 (by decide) (by decide) (by omega)
  refine ⟨?_, ?_, ?_, ?_⟩
  · intro f i k y hy
    obtain ⟨h1, h2, h3⟩ := tr_in hy
    have hf : f < 20 := by
      unfold tr at hy
      by_cases hf : f < 20
      · exact hf
      · simp [show f ≠ 8 by omega, show f ≠ 9 by omega, show f ≠ 10 by omega, show f ≠ 11 by omega, show f ≠ 12 by omega, show f ≠ 13 by omega, show f ≠ 0 by omega, show f ≠ 3 by omega, show f ≠ 4 by omega, show f ≠ 5 by omega, show f ≠ 14 by omega, show f ≠ 15 by omega] at hy
    have hr : 20 ≤ y.1 ∧ y.1 < 60 := tr_rg hy
    rw [ff_lo hf, gf_v hr.1 hr.2]
    by_cases a : y.1 = 32 ∧ y.2 < 2
    · have ey : ti y = (9, 0, y.2) := by
        simp only [ti, a.1]
        simp
        omega
      rw [h1] at ey
      simp only [Prod.mk.injEq] at ey
      rw [if_pos a, if_pos ⟨ey.1, ey.2.1, by omega⟩]
    · rw [if_neg a, if_neg (show ¬ (y.1 = 22 ∧ y.2 = 0) from fun e => h2.1 e.1)]
      by_cases b : y.1 = 21 ∧ y.2 = 0
      · have ey : ti y = (8, 0, 6) := by
          simp only [ti, b.1, b.2]
          simp
        rw [h1] at ey
        simp only [Prod.mk.injEq] at ey
        rw [if_pos b, if_neg (by omega), if_pos ⟨ey.1, ey.2.1, ey.2.2⟩]
      · rw [if_neg b]
        have q1 : ¬ (f = 9 ∧ i = 0 ∧ k < 2) := by
          rintro ⟨rfl, rfl, hk⟩
          rw [tfi (by decide) (by omega)] at hy
          cases hy
          exact a ⟨rfl, by simpa using hk⟩
        have q2 : ¬ (f = 8 ∧ i = 0 ∧ k = 6) := by
          rintro ⟨rfl, rfl, rfl⟩
          rw [t6 (by decide)] at hy
          cases hy
          exact b ⟨rfl, rfl⟩
        have q3 : ¬ (f = 8 ∧ i < 8 ∧ k = 0) := by
          rintro ⟨rfl, -, rfl⟩
          rw [tr80] at hy
          cases hy
        have q4 : ¬ (f = 8 ∧ i < 8 ∧ k = 7) := by
          rintro ⟨rfl, -, rfl⟩
          rw [tr87] at hy
          cases hy
        rw [if_neg q1, if_neg q2, if_neg q3, if_neg q4]
  · intro i hi
    have e21 := gf_21 (xs := xs) (p := i)
    refine ⟨?_, fun h => ?_, fun h => ?_, fun h => ?_, fun h => ?_, fun h => absurd (z34 i) h⟩
    · rw [ff_lo (by decide), if_neg (by omega), if_neg (by omega), if_pos ⟨rfl, hi, rfl⟩]
    · rw [e21] at h
      by_cases e : i = 0
      · subst e
        rw [ff_lo (by decide), if_neg (by omega), if_neg (by omega), if_neg (by omega), if_pos ⟨rfl, by decide, rfl⟩, gf_v (by decide) (by decide), if_neg (by omega), if_pos ⟨rfl, rfl⟩]
      · rw [if_neg e] at h
        exact absurd rfl h
    · rw [e21] at h
      split at h <;> grind
    · rw [e21] at h
      split at h <;> grind
    · rw [z34] at h
      grind
  · have eu : usN (Gf xs) = 0 := by
      unfold usN
      rw [gf_0 (f := 20) (k := 27) (by decide) (by decide) (by omega), gf_0 (f := 20) (k := 26) (by decide) (by decide) (by omega)]
      rfl
    rw [eu, ff_lo (by decide), if_neg (by omega), if_neg (by omega), if_neg (by omega), if_neg (by omega)]
  · intro k hk
    have eu : usN (Gf xs) = 0 := by
      unfold usN
      rw [gf_0 (f := 20) (k := 27) (by decide) (by decide) (by omega), gf_0 (f := 20) (k := 26) (by decide) (by decide) (by omega)]
      rfl
    omega
theorem mm_f (xs : Nat → Int32) : ((Ff xs, B0, Rf, 96, 0) : pm_M) = mm 0 Rf (Ff xs) B0 0 (Ff xs) (fun _ => 0) (Gf xs) (fun _ => 0) := by
  have e1 : mA (Ff xs) (Ff xs) (Gf xs) = Ff xs := by
    funext f i k
    unfold mA Gf
    split
    · rfl
    · split
      · rename_i h
        rw [h.2]
      · rfl
  have e2 : mB B0 0 (fun _ => 0) (fun _ => 0) = B0 := by
    funext f i k
    unfold mB B0
    split
    · rfl
    · split
      · rfl
      · split <;> rfl
  unfold mm
  rw [e1, e2]
  rfl
theorem pure_ok : pm_Pure 3072 := by
  intro ns xs hns
  have hJ : J 0 (Ff xs) (fun _ => 0) (Gf xs) (fun _ => 0) := j_of (gd_f xs) (rel_f xs _ _)
  have hw := law_loop (ns := ns) (Z := Ff xs) (Y := B0) rs_f hns (ns / 6) 0 0 0 0 (Ff xs) (fun _ => 0) (Gf xs) (fun _ => 0) rfl hJ (Nat.le_refl _) (Nat.le_refl _) none none
  rw [← mm_f] at hw
  obtain ⟨r, ⟨M', rfl⟩, N, h⟩ := law_in (ns := ns) (xs := xs) hw
  have h1 : nI 1 = 1 := by decide
  refine ⟨N, N, M', ?_⟩
  have h2 := h N (Nat.le_refl _) N (Nat.le_refl _)
  rw [h1] at h2
  exact h2
theorem i_vc : Claimed_1_1 ∧ Claimed_1_2 := i_of pure_ok
