/-! @80.rel 71.b1 71.b2 71.b8@ the class: small methods -/
/-- the class's memory goes over into one that stands beside H -/
def cQ (x : Nat) (R : Nat → Nat → Nat → Option (Nat × Nat)) (Z : Nat → Nat → Nat → Int32) (Y : Nat → Nat → Nat → Int64) (o : Int64) (c : Nat → Int64) (G : Nat → Nat → Int32) (g : Nat → Int64) (v : pm_O) (H : Nat → Nat → Int32) (h : Nat → Int64) : pm_O × pm_M → Prop := fun r => ∃ A', Rel A' c H h ∧ r = (v, mm x R Z Y o A' c G g)
def cX (ns d mi : Nat) (a : List pm_V) (x : Nat) (R : Nat → Nat → Nat → Option (Nat × Nat)) (Z : Nat → Nat → Nat → Int32) (Y : Nat → Nat → Nat → Int64) (o : Int64) (A : Nat → Nat → Nat → Int32) (c : Nat → Int64) (G : Nat → Nat → Int32) (g : Nat → Int64) (v : pm_O) (H : Nat → Nat → Int32) (h : Nat → Int64) : Prop := ∃ A', Rel A' c H h ∧ pE ns d mi a (mm x R Z Y o A c G g) (v, mm x R Z Y o A' c G g)
theorem u_id {A : Nat → Nat → Nat → Int32} {f i k : Nat} {v : Int32} (h : A f i k = v) : pm_u A f i k v = A := by
  funext f' i' k'
  unfold pm_u
  split
  · rename_i e
    obtain ⟨rfl, rfl, rfl⟩ := e
    exact h.symm
  · rfl
theorem bt_andI {x : Int32} {s : Nat} (h : s < 8) : (x &&& ((nI 1) <<< (nI s &&& 31)) = 0) = (bt x s = false) := propext (and_bit h)
section C1
variable {ns d x : Nat} {R : Nat → Nat → Nat → Option (Nat × Nat)} {Z A : Nat → Nat → Nat → Int32} {Y : Nat → Nat → Nat → Int64} {o : Int64} {c g : Nat → Int64} {G : Nat → Nat → Int32} {H : Nat → Nat → Int32} {h : Nat → Int64}
theorem cxi {mi : Nat} {a : List pm_V} {v : pm_O} (hl : (Nat.ble (mi + 1) 146 && Nat.ble (pm_ent a).length (pm_maxL mi)) = true) (hw : pW ns d mi 0 (pm_ent a ++ List.replicate (pm_maxL mi - (pm_ent a).length) none) [] (mm x R Z Y o A c G g) (cQ x R Z Y o c G g v H h)) : cX ns (d + 1) mi a x R Z Y o A c G g v H h := by
  obtain ⟨r, ⟨A', h1, rfl⟩, hE⟩ := enQ hl hw
  exact ⟨A', h1, hE⟩
theorem c112 (hR : RS R) (hr : Rel A c H h) (i1 : I1 H) {i : Nat} (hi : i < 8) : pE ns (d + 1) 112 [pm_r 8 i] (mm x R Z Y o A c G g) (.inl (some (pm_i (bI (lv H i)))), mm x R Z Y o A c G g) := by
  have e := r_6 hr hi
  have nd := nd
  have h0 := nI_0
  have hl := lv_A (i1 i hi)
  refine en rfl (t112_0 hR hi (fun k => ?_) (fun k k' => ?_) (fun k k' => ?_))
  · have : lv H i = false := by
      rw [Bool.eq_false_iff, ne_eq, hl]
      unfold A1
      grind
    rw [this, bI_f]
  · have : lv H i = false := by
      rw [Bool.eq_false_iff, ne_eq, hl]
      unfold A1
      grind
    rw [this, bI_f]
  · have : lv H i = true := by
      rw [hl]
      unfold A1
      have := i1 i hi
      grind
    rw [this, bI_t]
theorem c113 (hR : RS R) (hr : Rel A c H h) {i : Nat} {f : Int32} (hi : i < 8) : pE ns (d + 1) 113 [pm_r 8 i, pm_i f] (mm x R Z Y o A c G g) (.inl (some (pm_i (if fof H i f < 0 then nI 0 else fof H i f))), mm x R Z Y o A c G g) ∨ ∃ k, f = nI k ∧ k < 6 ∧ H 32 (6 * i + k) < 0 := by
  rcases pk_ix f (n := 6) (by decide) with h' | h' | ⟨k, hk, e⟩
  · left
    have : fof H i f = -nI 1 := if_neg (fun e => e.1 h')
    rw [this, if_pos (by decide)]
    exact en rfl (t113_0 hR hi (fun _ => rfl) (fun h'' => absurd h' h'') (fun h'' => absurd h' h''))
  · left
    have h5 : ¬ f ≤ nI 5 := fun h5 => absurd (Int32.le_trans h' h5) (by decide)
    have : fof H i f = -nI 1 := if_neg (fun e => h5 e.2)
    rw [this, if_pos (by decide)]
    exact en rfl (t113_0 hR hi (fun _ => rfl) (fun _ _ => rfl) (fun _ h'' => absurd h' h''))
  · subst e
    have : fof H i (nI k) = H 32 (6 * i + k) := by
      unfold fof
      rw [if_pos ⟨nI_pos (by omega), nI_le (by omega) (by decide)⟩, nI_clamp (by omega)]
    rw [this]
    by_cases hn : H 32 (6 * i + k) < 0
    · exact Or.inr ⟨k, rfl, hk, hn⟩
    · left
      rw [if_neg hn]
      refine en rfl (t113_0 hR hi (fun h'' => absurd h'' (nI_pos (by omega))) (fun _ h'' => absurd h'' (nI_ge hk (by decide))) (fun _ _ => b113_10 hR hi rfl hk ?_))
      rw [r_f hr hi hk]
theorem c115 (hR : RS R) (hr : Rel A c H h) {i s : Nat} (hi : i < 8) (hs : s < 8) : pE ns (d + 1) 115 [pm_r 8 i, pm_i (nI s)] (mm x R Z Y o A c G g) (.inl (some (pm_i (bI (bt (H 24 i) s)))), mm x R Z Y o A c G g) := by
  refine en rfl (t115_0 hR hi (fun k => ?_) (fun k => ?_))
  · rw [r_9 hr hi, bt_andI hs] at k
    rw [k, bI_f]
  · rw [r_9 hr hi, bt_andI hs] at k
    rw [Bool.not_eq_false] at k
    rw [k, bI_t]
theorem c116 (hR : RS R) (hr : Rel A c H h) {i s : Nat} (hi : i < 8) (hs : s < 8) : pE ns (d + 2) 116 [pm_r 8 i, pm_i (nI s)] (mm x R Z Y o A c G g) (.inl (some (pm_i (bI (due H i s)))), mm x R Z Y o A c G g) := by
  rw [due_iff hs]
  refine en rfl (t116_0 hR hi (fun k => ?_) (fun k => b116_11 hR hi (c115 hR hr hi hs) (t116_16 hR (fun k' => ?_) (fun k' => ?_))))
  · rw [r_10 hr hi, bt_andI hs] at k
    rw [k]
    rfl
  · rw [r_10 hr hi, bt_andI hs, Bool.not_eq_false] at k
    rw [k, bI_0.mp k']
    rfl
  · rw [r_10 hr hi, bt_andI hs, Bool.not_eq_false] at k
    rw [k, bI_n0.mp k']
    rfl
theorem rl_25 (hr : Rel A c H h) {i : Nat} {v : Int32} (hi : i < 8) : Rel (pm_u A 8 i 10 v) c (pm_v H 25 i v) h := rl_u hr (t10 hi) (by simp)
theorem c117 (hR : RS R) (hr : Rel A c H h) {i s : Nat} (hi : i < 8) : cX ns (d + 1) 117 [pm_r 8 i, pm_i (nI s)] x R Z Y o A c G g (.inl none) (fgt H i s) h := by
  refine cxi rfl (b117_0 hR hi ⟨_, ?_, rfl⟩)
  unfold fgt
  rw [r_10 hr hi]
  exact rl_25 hr hi
theorem c119 (hR : RS R) (hr : Rel A c H h) (i4 : I4 H) {i s : Nat} (hi : i < 8) (h1 : 1 ≤ s) (hs : s < 8) : pE ns (d + 1) 119 [pm_r 8 i, pm_i (nI s)] (mm x R Z Y o A c G g) (.inl (some (pm_i (bI (stp H i s)))), mm x R Z Y o A c G g) := by
  have e := r_a hr hi h1 hs
  have nd := nd
  have h0 := nI_0
  refine en rfl (t119_0 hR hi rfl hs (fun k => ?_) (fun k k' k2 => ?_) (fun k k' k2 => ?_) (fun k k' => ?_))
  · rw [e] at k
    simp [stp, k, bI_t, show ¬ nI 2 = nI 1 by decide]
  · rw [e] at k k'
    rw [nI_ltI (by decide) (by omega)] at k2
    simp [stp, k', show ¬ s < 6 by omega, bI_f, show ¬ (0 : Int32) = nI 2 by decide]
  · rw [e] at k k'
    rw [nI_ltI (by decide) (by omega)] at k2
    simp [stp, k', show s < 6 by omega, bI_t, show ¬ (0 : Int32) = nI 1 by decide]
  · rw [e] at k k'
    have := i4 i hi s hs
    have e1 : H 33 (8 * i + s) = nI 1 := by grind
    simp [stp, e1, bI_f]
theorem and49 (x : Int32) : (x &&& (((nI 1) <<< (nI 4 &&& 31)) ^^^ (-nI 1))) &&& (((nI 1) <<< (nI 5 &&& 31)) ^^^ (-nI 1)) = x &&& -nI 49 := by
  rw [Int32.and_assoc]
  congr 1
theorem and65 : (((nI 1) <<< (nI 6 &&& 31)) ^^^ (-nI 1)) = -nI 65 := by decide
theorem c118 (hR : RS R) (hr : Rel A c H h) {t i s e : Nat} (hI : Iv e t H) (hi : i < 8) (h1 : 1 ≤ s) (hs : s < 8) : cX ns (d + 2) 118 [pm_r 8 i, pm_i (nI s)] x R Z Y o A c G g (.inl none) (admF H i s) h := by
  have nd := nd
  have hs1 : ¬ nI s < nI 1 := nI_nlt h1 (by omega)
  have hs7 : ¬ nI 7 < nI s := nI_nlt (by omega) (by decide)
  refine cxi rfl ?_
  -- behind what CONT, STOP and INPUT do first
  have fin : ∀ A', Rel A' c (ad1 H i s) h → pW ns (d + 1) 118 73 [some (pm_r 8 i), some (pm_i (nI s))] [] (mm x R Z Y o A' c G g) (cQ x R Z Y o c G g (.inl none) (admF H i s) h) := by
    intro A' hr'
    have i4 : I4 (ad1 H i s) := fun q hq s' hs' => by rw [ad1_33]; exact hI.1.2.2.2.1 q hq s' hs'
    have hst : stp (ad1 H i s) i s = stp H i s := by unfold stp; rw [ad1_33]
    refine b118_73 hR hi (c119 hR hr' i4 hi h1 hs) (t118_78 hR hi (fun k => ⟨_, ?_, rfl⟩) (fun k => ⟨_, ?_, rfl⟩))
    · unfold admF
      rw [hst, bI_0] at k
      rw [if_neg (by rw [k]; decide)]
      exact hr'
    · unfold admF
      rw [hst, bI_n0] at k
      rw [if_pos k, r_10 hr' hi]
      exact rl_25 hr' hi
  have q8 : ∀ {a : Nat}, a < 8 → (nI s = nI a ↔ s = a) := fun ha => nI_eq (by omega) (by omega)
  have o4 : (s = 4 ∨ s = 5) → pW ns (d + 1) 118 56 [some (pm_r 8 i), some (pm_i (nI s))] [] (mm x R Z Y o A c G g) (cQ x R Z Y o c G g (.inl none) (admF H i s) h) := by
    intro h45
    obtain ⟨A', hr', hE⟩ := c117 (ns := ns) (d := d) (x := x) (Z := Z) (Y := Y) (o := o) (G := G) (g := g) hR hr (i := i) (s := 6) hi
    refine b118_56 hR hi hE (t118_62 hR hi (fun k => absurd k hs1) (fun _ k => absurd k hs7) (fun _ _ => fin A' ?_))
    have : ad1 H i s = fgt H i 6 := by
      unfold ad1 fgt
      rw [if_neg (by omega), if_pos h45, and65]
    rw [this]
    exact hr'
  refine t118_0 hR hi (fun k => ?_) (fun k k' => o4 (Or.inl ((q8 (by decide)).mp k'))) (fun k k' k2 => o4 (Or.inr ((q8 (by decide)).mp k2))) (fun _ _ _ k => absurd k hs1) (fun _ _ _ _ k => absurd k hs7) (fun k k' k2 _ _ => fin A ?_)
  · have e6 := (q8 (by decide)).mp k
    subst e6
    obtain ⟨A', hr', hE⟩ := c117 (ns := ns) (d := d) (x := x) (Z := Z) (Y := Y) (o := o) (G := G) (g := g) hR hr (i := i) (s := 4) hi
    obtain ⟨A2, hr2, hE2⟩ := c117 (ns := ns) (d := d) (x := x) (Z := Z) (Y := Y) (o := o) (G := G) (g := g) hR hr' (i := i) (s := 5) hi
    have ef : fgt (fgt H i 4) i 5 = pm_v H 25 i (H 25 i &&& -nI 49) := by
      unfold fgt
      rw [v_v, v_eq, and49]
    rw [ef] at hr2
    have e21 : pm_v H 25 i (H 25 i &&& -nI 49) 21 i = H 21 i := v_f (by decide)
    have e34 : pm_v H 25 i (H 25 i &&& -nI 49) 34 i = H 34 i := v_f (by decide)
    have i7 := (hI.1.2.2.2.2.2.2.1 i hi).2.2.2
    have up : ∀ v, H 21 i = nI 3 → H 30 i = v → v = nI 1 ∨ v = nI 2 → Rel (pm_u A2 8 i 6 v) c (ad1 H i 6) h := by
      intro v h3 hv hv2
      have : ad1 H i 6 = pm_v (pm_v H 25 i (H 25 i &&& -nI 49)) 21 i v := by
        unfold ad1
        rw [if_pos rfl, if_pos h3, hv]
      rw [this]
      refine rl_21 hi hr2 (fun _ => r_7 hr2 hi (by rw [e21, h3]; decide)) (fun h' => ?_) (fun h' => ?_) (fun h34 _ => (hr2.2.1 i hi).2.2.2.2.2 h34 (by rw [e21, h3]; decide))
      · grind
      · grind
    refine b118_6 hR hi hE (b118_11 hR hi hE2 (t118_16 hR hi (fun _ _ k => absurd k hs1) (fun _ _ _ k => absurd k hs7) (fun k k' _ _ => ?_) (fun _ _ k => absurd k hs1) (fun _ _ _ k => absurd k hs7) (fun k k' _ _ => ?_) (fun _ k => absurd k hs1) (fun _ _ k => absurd k hs7) (fun k _ _ => ?_)))
    · rw [r_6 hr2 hi, e21] at k
      rw [r_k0 hr2 hi, e34, ← nI_0] at k'
      exact fin _ (up _ k ((i7 k).1 k') (Or.inl rfl))
    · rw [r_6 hr2 hi, e21] at k
      rw [r_k0 hr2 hi, e34, ← nI_0] at k'
      exact fin _ (up _ k ((i7 k).2 k') (Or.inr rfl))
    · rw [r_6 hr2 hi, e21] at k
      have : ad1 H i 6 = pm_v H 25 i (H 25 i &&& -nI 49) := by
        unfold ad1
        rw [if_pos rfl, if_neg k]
      exact fin _ (by rw [this]; exact hr2)
  · have : ad1 H i s = H := by
      unfold ad1
      rw [q8 (by decide)] at k k' k2
      rw [if_neg k, if_neg (by omega)]
    rw [this]
    exact hr
theorem c118k (hR : RS R) {i : Nat} (hi : i < 8) : pE ns (d + 1) 118 [pm_r 8 i, pm_i (nI 8)] (mm x R Z Y o A c G g) (.inl none, mm x R Z Y o A c G g) := en rfl (t118_0 hR hi (fun k => absurd k (by decide)) (fun _ k => absurd k (by decide)) (fun _ _ k => absurd k (by decide)) (fun _ _ _ _ => rfl) (fun _ _ _ _ _ => rfl) (fun _ _ _ _ k => absurd (by decide) k))
theorem rl_fin (hr : Rel A c H h) {i : Nat} {v : Int32} (hi : i < 8) (hz : H 21 i ≠ nI 0) : Rel (pm_u (pm_u (pm_u A 8 i 6 (nI 1)) 8 i 11 v) 13 i 0 (nI 0)) c (finF H i v) h := by
  unfold finF
  rw [v_swap (G := H) (f := 26) (f' := 21) (by decide)]
  have h1 : Rel (pm_u A 8 i 6 (nI 1)) c (pm_v H 21 i (nI 1)) h := rl_21 hi hr (fun _ => r_7 hr hi hz) (fun e => absurd e (by decide)) (fun e => absurd e (by decide)) (fun _ e => absurd rfl e)
  have h2 : Rel (pm_u (pm_u A 8 i 6 (nI 1)) 8 i 11 v) c (pm_v (pm_v H 21 i (nI 1)) 26 i v) h := rl_u h1 (t11 hi) (by simp)
  exact rl_34 hi h2 (fun e => absurd e (by decide)) (fun e => absurd rfl e)
theorem c122 (hR : RS R) (hr : Rel A c H h) {i : Nat} {v : Int32} (hi : i < 8) (hz : H 21 i ≠ nI 0) : cX ns (d + 1) 122 [pm_r 8 i, pm_i v] x R Z Y o A c G g (.inl none) (finF H i v) h := cxi rfl (b122_0 hR hi ⟨_, rl_fin hr hi hz, rfl⟩)
theorem c120 (hR : RS R) (hr : Rel A c H h) {i n : Nat} {s : Int32} (hi : i < 8) (hn : H 28 i = nI n) (hn2 : n < 2 ^ 31) : cX ns (d + 2) 120 [pm_r 8 i, pm_i s] x R Z Y o A c G g (.inl none) (hearF H i s) h := by
  have e13 := r_13 hr hi
  have ec : (H 28 i).toNatClampNeg = n := by rw [hn, nI_clamp hn2]
  have h1 : Rel (pm_u A 12 i (n % 16) s) c (pm_v H 40 (16 * i + n % 16) s) h := rl_u hr (thd hi (by omega)) (by simp)
  have h2 : Rel (pm_u (pm_u A 12 i (n % 16) s) 8 i 13 (pm_u A 12 i (n % 16) s 8 i 13 + nI 1)) c (pm_v (pm_v H 40 (16 * i + n % 16) s) 28 i (H 28 i + nI 1)) h := by
    rw [u_ne (by omega), e13]
    exact rl_u h1 (t13 hi) (by simp)
  have e21 : pm_v (pm_v H 40 (16 * i + n % 16) s) 28 i (H 28 i + nI 1) 21 i = H 21 i := by rw [v_f (by decide), v_f (by decide)]
  refine cxi rfl (t120_0 hR hi (j1 := n % 16) (by rw [e13, hn, pk_rem hn2 (by decide) (by decide)]) (by omega) (fun k => ?_) (fun k => ?_))
  · rw [r_6 h2 hi, e21] at k
    have : hearF H i s = finF (pm_v (pm_v H 40 (16 * i + n % 16) s) 28 i (H 28 i + nI 1)) i (-nI 4) := by
      unfold hearF
      rw [if_pos k, ec]
    obtain ⟨A', hr', hE⟩ := c122 (ns := ns) (d := d) (x := x) (Z := Z) (Y := Y) (o := o) (G := G) (g := g) (v := -nI 4) hR h2 hi (by rw [e21, k]; decide)
    refine b120_31 hR hi hE (b120_37 hR ⟨A', ?_, rfl⟩)
    rw [this]
    exact hr'
  · rw [r_6 h2 hi, e21] at k
    have : hearF H i s = pm_v (pm_v H 40 (16 * i + n % 16) s) 28 i (H 28 i + nI 1) := by
      unfold hearF
      rw [if_neg k, ec]
    refine ⟨_, ?_, rfl⟩
    rw [this]
    exact h2
theorem c25s (hR : RS R) {i j : Nat} (hi : i < 8) (hj : j < 8) (e : A 8 i 7 = nI j) : pE ns (d + 1) 25 [pm_r 0 0, pm_r 8 i] (mm x R Z Y o A c G g) (.inl (some (pm_r 8 j)), mm x R Z Y o A c G g) := en rfl (t25_0 hR hi (fun k => absurd k (by rw [e]; exact nI_pos (by omega))) (fun _ k => absurd k (by rw [e]; exact nI_ge hj (by decide))) (fun _ _ => b25_16 hR hi e hj rfl))
theorem c25n (hR : RS R) {i : Nat} (hi : i < 8) (e : A 8 i 7 < 0 ∨ nI 8 ≤ A 8 i 7) : pE ns (d + 1) 25 [pm_r 0 0, pm_r 8 i] (mm x R Z Y o A c G g) (.inl (some (pm_a none)), mm x R Z Y o A c G g) := en rfl (t25_0 hR hi (fun _ => rfl) (fun _ _ => rfl) (fun k k' => absurd e (fun e => e.elim k k')))
theorem c26 (hR : RS R) (hr : Rel A c H h) (i1 : I1 H) {q : Int32} : pE ns (d + 2) 26 [pm_r 0 0, pm_i q] (mm x R Z Y o A c G g) (.inl (some (pm_i (bI (ispt H q)))), mm x R Z Y o A c G g) := by
  refine en rfl (b26_0 hR ?_)
  have key : ∀ n k, k + n = 8 → (∀ j, j < k → (lv H j && decide (H 23 j = q)) = false) → pW ns (d + 1) 26 2 [some (pm_r 0 0), some (pm_i q), some (pm_i (nI k))] [] (mm x R Z Y o A c G g) (fun r' => r' = (.inl (some (pm_i (bI (ispt H q)))), mm x R Z Y o A c G g)) := by
    intro n
    induction n with
    | zero =>
      intro k hk hj
      have : k = 8 := by omega
      subst this
      refine t26_2 hR (fun _ => ?_) (fun k => absurd (by decide) k)
      have : ispt H q = false := ex_no.mpr hj
      rw [this, bI_f]
    | succ n ih =>
      intro k hk hj
      have hk8 : k < 8 := by omega
      have nx : (lv H k && decide (H 23 k = q)) = false → pW ns (d + 1) 26 2 [some (pm_r 0 0), some (pm_i q), some (pm_i (nI k + nI 1))] [] (mm x R Z Y o A c G g) (fun r' => r' = (.inl (some (pm_i (bI (ispt H q)))), mm x R Z Y o A c G g)) := by
        intro hn
        rw [nI_s]
        refine ih (k + 1) (by omega) (fun j hj' => ?_)
        by_cases e : j = k
        · rw [e]
          exact hn
        · exact hj j (by omega)
      refine t26_2 hR (fun k => absurd k (nI_ge hk8 (by decide))) (fun _ => b26_8 hR rfl hk8 (c112 hR hr i1 hk8) (t26_17 hR (fun k => ?_) (fun k => b26_20 hR rfl hk8 (fun k' => b26_33 hR ?_) (fun k' => b26_35 hR ?_))))
      · exact nx (by rw [bI_0.mp k]; rfl)
      · rw [r_8 hr hk8] at k'
        have : ispt H q = true := ex_iff.mpr ⟨_, hk8, by rw [bI_n0.mp k]; simp [k']⟩
        rw [this, bI_t]
      · rw [r_8 hr hk8] at k'
        exact nx (by simp [k'])
  exact key 8 0 rfl (fun j hj => absurd hj (by omega))
theorem c27 (hR : RS R) (hr : Rel A c H h) (i1 : I1 H) (i2 : I2 H) (i3 : I3 H) {q : Int32} : pE ns (d + 2) 27 [pm_r 0 0, pm_i q] (mm x R Z Y o A c G g) (.inl (some (pm_i (bI (orph H q)))), mm x R Z Y o A c G g) := by
  have nd := nd
  refine en rfl (b27_0 hR ?_)
  have key : ∀ n k, k + n = 8 → (∀ j, j < k → outs H q j = false) → ∀ u3 u4, pW ns (d + 1) 27 2 [some (pm_r 0 0), some (pm_i q), some (pm_i (nI k)), u3, u4] [] (mm x R Z Y o A c G g) (fun r' => r' = (.inl (some (pm_i (bI (orph H q)))), mm x R Z Y o A c G g)) := by
    intro n
    induction n with
    | zero =>
      intro k hk hj u3 u4
      have : k = 8 := by omega
      subst this
      refine t27_2 hR (fun _ => ?_) (fun k => absurd (by decide) k)
      have : orph H q = true := by
        unfold orph
        rw [ex_no.mpr hj]
        rfl
      rw [this, bI_t]
    | succ n ih =>
      intro k hk hj u3 u4
      have hk8 : k < 8 := by omega
      have nx : outs H q k = false → ∀ u3 u4, pW ns (d + 1) 27 2 [some (pm_r 0 0), some (pm_i q), some (pm_i (nI k + nI 1)), u3, u4] [] (mm x R Z Y o A c G g) (fun r' => r' = (.inl (some (pm_i (bI (orph H q)))), mm x R Z Y o A c G g)) := by
        intro hn u3 u4
        rw [nI_s]
        refine ih (k + 1) (by omega) (fun j hj' => ?_) _ _
        by_cases e : j = k
        · rw [e]
          exact hn
        · exact hj j (by omega)
      refine t27_2 hR (fun k => absurd k (nI_ge hk8 (by decide))) (fun _ => ?_)
      by_cases hl : lv H k = true
      · have hA := (lv_A (i1 k hk8)).mp hl
        have hz : H 21 k ≠ nI 0 := by
          unfold A1 at hA
          grind
        by_cases h0 : k = 0
        · subst h0
          have e7 : A 8 0 7 = -nI 1 := (r_7 hr hk8 hz).trans i2.2
          have ho : outs H q 0 = false := by simp [outs]
          refine b27_8n hR rfl hk8 (c25n hR hk8 (Or.inl (by rw [e7]; decide))) (b27_20a hR hk8 (c112 hR hr i1 hk8) (t27_26a hR hk8 (fun _ => nx ho _ _) (fun _ _ => nx ho _ _) (fun _ _ => nx ho _ _)))
        · obtain ⟨j, hj8, e22, -, -⟩ := i3 k (by omega) hk8 hz
          have epa : pa H k = j := by rw [pa, e22, nI_clamp (by omega)]
          have ho : outs H q k = (decide (H 23 k = q) && (lv H j && !decide (H 23 j = q))) := by simp [outs, hl, epa, show 1 ≤ k by omega]
          refine b27_8 hR rfl hk8 (c25s hR hk8 hj8 ((r_7 hr hk8 hz).trans e22)) (b27_20 hR hk8 hj8 (c112 hR hr i1 hk8) (t27_26 hR hk8 hj8 (fun k' => ?_) (fun k' k2 => b27_37 hR hj8 (c112 hR hr i1 hj8) (t27_47 hR hj8 (fun k3 => ?_) (fun k3 k4 => ?_) (fun k3 k4 => ?_))) (fun k' k2 => ?_)))
          · rw [hl] at k'
            exact absurd k' (by decide)
          · exact nx (by rw [ho, bI_0.mp k3]; simp) _ _
          · rw [r_8 hr hj8] at k4
            exact nx (by rw [ho]; simp [k4]) _ _
          · rw [r_8 hr hj8] at k4
            rw [r_8 hr hk8] at k2
            have : orph H q = false := by
              unfold orph
              rw [ex_iff.mpr ⟨k, hk8, by rw [ho, bI_n0.mp k3]; simp [k2, k4]⟩]
              rfl
            rw [this, bI_f]
          · rw [r_8 hr hk8] at k2
            exact nx (by rw [ho]; simp [k2]) _ _
      · have hl' : lv H k = false := by simpa using hl
        have ho : outs H q k = false := by simp [outs, hl']
        have h112 := c112 (ns := ns) (d := d) (x := x) (Z := Z) (Y := Y) (o := o) (G := G) (g := g) hR hr i1 hk8
        rw [hl', bI_f] at h112
        rcases pk_ix (A 8 k 7) (n := 8) (by decide) with h' | h' | ⟨j, hj8, e⟩
        · exact b27_8n hR rfl hk8 (c25n hR hk8 (Or.inl h')) (b27_20a hR hk8 h112 (t27_26a hR hk8 (fun _ => nx ho _ _) (fun k => absurd (by decide) k) (fun k => absurd (by decide) k)))
        · exact b27_8n hR rfl hk8 (c25n hR hk8 (Or.inr h')) (b27_20a hR hk8 h112 (t27_26a hR hk8 (fun _ => nx ho _ _) (fun k => absurd (by decide) k) (fun k => absurd (by decide) k)))
        · exact b27_8 hR rfl hk8 (c25s hR hk8 hj8 e) (b27_20 hR hk8 hj8 h112 (t27_26 hR hk8 hj8 (fun _ => nx ho _ _) (fun k => absurd (by decide) k) (fun k => absurd (by decide) k)))
  exact key 8 0 rfl (fun j hj => absurd hj (by omega)) _ _
theorem c28 (hR : RS R) (hr : Rel A c H h) {v : Int32} : pE ns (d + 1) 28 [pm_r 0 0, pm_i v] (mm x R Z Y o A c G g) (.inl (some (pm_i (bI (opn H v)))), mm x R Z Y o A c G g) := by
  refine en rfl (b28_0 hR ?_)
  have key : ∀ n i, i + n = 8 → (∀ j, j < 6 * i → decide (H 32 j = v) = false) → ∀ u3, pW ns d 28 2 [some (pm_r 0 0), some (pm_i v), some (pm_i (nI i)), u3] [] (mm x R Z Y o A c G g) (fun r' => r' = (.inl (some (pm_i (bI (opn H v)))), mm x R Z Y o A c G g)) := by
    intro n
    induction n with
    | zero =>
      intro i hi hj u3
      have : i = 8 := by omega
      subst this
      refine t28_2 hR (fun _ => ?_) (fun k => absurd (by decide) k)
      have : opn H v = false := ex_no.mpr hj
      rw [this, bI_f]
    | succ n ih =>
      intro i hi hj u3
      have hi8 : i < 8 := by omega
      have inn : ∀ m k, k + m = 6 → (∀ j, j < 6 * i + k → decide (H 32 j = v) = false) → pW ns d 28 10 [some (pm_r 0 0), some (pm_i v), some (pm_i (nI i)), some (pm_i (nI k))] [] (mm x R Z Y o A c G g) (fun r' => r' = (.inl (some (pm_i (bI (opn H v)))), mm x R Z Y o A c G g)) := by
        intro m
        induction m with
        | zero =>
          intro k hk hj
          have : k = 6 := by omega
          subst this
          refine t28_10 hR (fun _ => ?_) (fun k => absurd (by decide) k)
          rw [nI_s]
          exact ih (i + 1) (by omega) (fun j hj' => hj j (by omega)) _
        | succ m ih2 =>
          intro k hk hj
          have hk6 : k < 6 := by omega
          refine t28_10 hR (fun k => absurd k (nI_ge hk6 (by decide))) (fun _ => b28_16 hR rfl hi8 rfl hk6 (fun k' => b28_31 hR ?_) (fun k' => b28_33 hR ?_))
          · rw [r_f hr hi8 hk6] at k'
            have : opn H v = true := ex_iff.mpr ⟨6 * i + k, by omega, by simp [k']⟩
            rw [this, bI_t]
          · rw [r_f hr hi8 hk6] at k'
            rw [nI_s]
            refine ih2 (k + 1) (by omega) (fun j hj' => ?_)
            by_cases e : j = 6 * i + k
            · rw [e]
              simp [k']
            · exact hj j (by omega)
      exact t28_2 hR (fun k => absurd k (nI_ge hi8 (by decide))) (fun _ => inn 6 0 rfl (fun j hj' => hj j (by omega)))
  exact key 8 0 rfl (fun j hj => absurd hj (by omega)) _
theorem c29 (hR : RS R) (hr : Rel A c H h) {k : Nat} : pE ns (d + 2) 29 [pm_r 0 0, pm_i (nI k)] (mm x R Z Y o A c G g) (.inl (some (pm_i (bI (isp H k)))), mm x R Z Y o A c G g) := by
  refine en rfl (b29_0 hR (by rw [nI_m, nI_add]; exact c28 hR hr) (t29_9 hR (fun k' => b29_12 hR (by rw [nI_m, nI_add]; exact c28 hR hr) (t29_21 hR (fun k2 => ?_) (fun k2 => ?_))) (fun k' => ?_)))
  · simp [isp, bI_0.mp k', bI_0.mp k2, bI_f]
  · simp [isp, bI_n0.mp k2, bI_t]
  · simp [isp, bI_n0.mp k', bI_t]
theorem c30 (hR : RS R) (hr : Rel A c H h) : pE ns (d + 3) 30 [pm_r 0 0] (mm x R Z Y o A c G g) (.inl (some (pm_i (nI (npi H)))), mm x R Z Y o A c G g) := by
  refine en rfl (b30_0 hR ?_)
  have key : ∀ n k, k + n = 6 → npi H = fst (fun k => !isp H k) k n → pW ns (d + 2) 30 2 [some (pm_r 0 0), some (pm_i (nI k))] [] (mm x R Z Y o A c G g) (fun r' => r' = (.inl (some (pm_i (nI (npi H)))), mm x R Z Y o A c G g)) := by
    intro n
    induction n with
    | zero =>
      intro k hk hn
      have : k = 6 := by omega
      subst this
      refine t30_2 hR (fun _ => ?_) (fun k => absurd (by decide) k)
      rw [show npi H = 6 from hn]
    | succ n ih =>
      intro k hk hn
      have hk6 : k < 6 := by omega
      simp only [fst] at hn
      refine t30_2 hR (fun k => absurd k (nI_ge hk6 (by decide))) (fun _ => b30_8 hR (c29 hR hr) (t30_13 hR (fun k' => ?_) (fun k' => ?_)))
      · rw [if_pos (by rw [bI_0.mp k']; rfl)] at hn
        rw [hn]
      · rw [if_neg (by rw [bI_n0.mp k']; decide)] at hn
        rw [nI_s]
        exact ih (k + 1) (by omega) hn
  exact key 6 0 rfl rfl
theorem c31 (hR : RS R) (hr : Rel A c H h) : pE ns (d + 3) 31 [pm_r 0 0] (mm x R Z Y o A c G g) (.inl (some (pm_i (nI (ct (isp H) 6)))), mm x R Z Y o A c G g) := by
  refine en rfl (b31_0 hR ?_)
  have key : ∀ n k, k + n = 6 → pW ns (d + 2) 31 4 [some (pm_r 0 0), some (pm_i (nI (ct (isp H) k))), some (pm_i (nI k))] [] (mm x R Z Y o A c G g) (fun r' => r' = (.inl (some (pm_i (nI (ct (isp H) 6)))), mm x R Z Y o A c G g)) := by
    intro n
    induction n with
    | zero =>
      intro k hk
      have : k = 6 := by omega
      subst this
      exact t31_4 hR (fun _ => rfl) (fun k => absurd (by decide) k)
    | succ n ih =>
      intro k hk
      have hk6 : k < 6 := by omega
      have ih := ih (k + 1) (by omega)
      refine t31_4 hR (fun k => absurd k (nI_ge hk6 (by decide))) (fun _ => b31_10 hR (c29 hR hr) (t31_15 hR (fun k' => ?_) (fun k' => ?_)))
      · simp only [ct, bI_0.mp k'] at ih
        rw [nI_s]
        exact ih
      · simp only [ct, bI_n0.mp k'] at ih
        rw [nI_s, nI_s]
        exact ih
  exact key 6 0 rfl
end C1
