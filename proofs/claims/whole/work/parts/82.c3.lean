/-! @82.c2@ the class: sending -/
section C3
variable {ns d x : Nat} {R : Nat → Nat → Nat → Option (Nat × Nat)} {Z A : Nat → Nat → Nat → Int32} {Y : Nat → Nat → Nat → Int64} {o : Int64} {c g : Nat → Int64} {G : Nat → Nat → Int32} {H : Nat → Nat → Int32} {h : Nat → Int64}
theorem c33h (hR : RS R) {K : Nat → Nat → Int32} (hr : Rel A c K h) {t j k : Nat} (hj : j < 8) (hk : k < 8) (hI : Iv 8 t K) (ht : t + 8 < 2 ^ 30) (ha : A1 K j) (u1 : Option pm_V) (v2 : Int32) : pW ns (d + 3) 33 21 [some (pm_r 0 0), u1, some (pm_i v2), some (pm_r 8 j), some (pm_i (nI 7)), some (pm_i (nI k))] [] (mm x R Z Y o A c G g) (cQ x R Z Y o c G g (.inl (some (pm_i (nI 1)))) (tellF K j) h) := by
  have nd := nd
  obtain ⟨A1', hr1, hE1⟩ := c118 (ns := ns) (d := d + 1) (x := x) (Z := Z) (Y := Y) (o := o) (G := G) (g := g) (s := 7) hR hr hI hj (by decide) (by decide)
  obtain ⟨ia, haa⟩ := iv_adm (s := 7) (iv_ex hI) hj (by decide) ha
  have hl := (lv_A (hI.1.1 j hj)).mpr ha
  have hcom : delF (admF K j 7) j = tellF K j := by
    rw [← com7 hI hj ha]
    unfold comF
    rw [if_pos hl, if_neg (by decide)]
  obtain ⟨r, hd, hE2⟩ := c34 (ns := ns) (d := d) (x := x) (Z := Z) (Y := Y) (o := o) (G := G) (g := g) hR hr1 hj ia ht haa
  rw [hcom] at hd
  rcases hd with ⟨A2, hr2, rfl⟩ | ⟨A2, K', j', -, -, -, -, -, ⟨s, hs1, hs, hdu, hst⟩, -⟩
  · exact t33_21 hR hj (fun q => absurd q (nI_ge hk (by decide))) (fun _ => b33_28 hR hj hE1 (t33_38 hR hj (fun q => absurd q (by decide)) (fun _ => b33_55n hR hj hE2 (b33_60a hR (t33_21a hR (fun _ => ⟨A2, hr2, rfl⟩) (fun _ => ⟨A2, hr2, rfl⟩))))))
  · rw [adm5 (by decide) _ _ (by omega)] at hst
    rw [adm_due hI hj (by decide) (by decide) hs1 (by omega) (by omega) hst] at hdu
    cases hdu
theorem c33 (hR : RS R) (hr : Rel A c H h) {t p s : Nat} (hp : p < 8) (hs1 : 1 ≤ s) (hs : s ≤ 8) (hI : Iv 8 t H) (ht : t + 24 < 2 ^ 30) (hl : lv H p = true) : cX ns (d + 4) 33 [pm_r 0 0, pm_r 8 p, pm_i (nI s)] x R Z Y o A c G g (.inl (some (pm_i (nI 1)))) (comF H p s) h := by
  have nd := nd
  have hA := (lv_A (hI.1.1 p hp)).mp hl
  have h112 := c112 (ns := ns) (d := d + 2) (x := x) (Z := Z) (Y := Y) (o := o) (G := G) (g := g) hR hr hI.1.1 hp
  rw [hl, bI_t] at h112
  refine cxi rfl (b33_0 hR hp h112 (t33_8 hR hp (fun q => absurd q (by decide)) (fun _ => t33_21 hR hp (fun q => absurd q (by decide)) (fun _ => ?_))))
  by_cases h8 : s = 8
  · subst h8
    refine b33_28 hR hp (c118k hR hp) (t33_38 hR hp (fun _ => ?_) (fun q => absurd rfl q))
    by_cases h0 : p = 0
    · subst h0
      refine b33_45n hR hp (c35z (d := d + 1) hR hr hI) (b33_52a hR (t33_21a hR (fun _ => ⟨A, ?_, rfl⟩) (fun _ => ⟨A, ?_, rfl⟩)))
      · simp only [comF, if_pos hl, if_true]
        exact hr
      · simp only [comF, if_pos hl, if_true]
        exact hr
    · obtain ⟨w1, w2, w3, w4, w5⟩ := iv_end (how := nI 72) hI (by omega) hp (Or.inr rfl) hA
      obtain ⟨A1', hr1, hE1⟩ := c35 (ns := ns) (d := d + 1) (x := x) (Z := Z) (Y := Y) (o := o) (G := G) (g := g) (w := nI 72) hR hr hI (by omega) hp (Or.inr rfl) hA
      refine b33_45 hR hp hE1 (b33_52 hR w2 ?_)
      have e : comF H p 8 = tellF (endF H p (nI 72)) (pa H p) := by
        simp only [comF, if_pos hl, if_true, if_neg h0]
        rfl
      rw [e]
      exact c33h hR hr1 w2 (by decide) w1 (by omega) w5 _ _
  · obtain ⟨A1', hr1, hE1⟩ := c118 (ns := ns) (d := d + 1) (x := x) (Z := Z) (Y := Y) (o := o) (G := G) (g := g) (s := s) hR hr hI hp hs1 (by omega)
    obtain ⟨ia, haa⟩ := iv_adm (s := s) (iv_ex hI) hp (by omega) hA
    obtain ⟨r, hd, hE2⟩ := c34 (ns := ns) (d := d) (x := x) (Z := Z) (Y := Y) (o := o) (G := G) (g := g) hR hr1 hp ia (by omega) haa
    have hcom : comF H p s = delF (admF H p s) p := by
      unfold comF
      rw [if_pos hl, if_neg h8]
    rw [← hcom] at hd
    refine b33_28 hR hp hE1 (t33_38 hR hp (fun q => absurd (nI_inj q (by omega) (by decide)) h8) (fun _ => ?_))
    rcases hd with ⟨A2, hr2, rfl⟩ | ⟨A2, K, j, hj, hr2, htell, hIK, hAK, -, rfl⟩
    · exact b33_55n hR hp hE2 (b33_60a hR (t33_21a hR (fun _ => ⟨A2, hr2, rfl⟩) (fun _ => ⟨A2, hr2, rfl⟩)))
    · refine b33_55 hR hp hE2 (b33_60 hR hj ?_)
      rw [← htell]
      exact c33h hR hr2 hj (by decide) hIK (by omega) hAK _ _
theorem c33d (hR : RS R) (hr : Rel A c H h) (i1 : I1 H) {p : Nat} {s : Int32} (hp : p < 8) (hl : lv H p = false) : pE ns (d + 2) 33 [pm_r 0 0, pm_r 8 p, pm_i s] (mm x R Z Y o A c G g) (.inl (some (pm_i (nI 0))), mm x R Z Y o A c G g) := by
  have h112 := c112 (ns := ns) (d := d) (x := x) (Z := Z) (Y := Y) (o := o) (G := G) (g := g) hR hr i1 hp
  rw [hl, bI_f] at h112
  exact en rfl (b33_0 hR hp h112 (t33_8 hR hp (fun _ => rfl) (fun q => absurd (by decide) q)))
theorem c33z (hR : RS R) {s : Int32} : pE ns (d + 1) 33 [pm_r 0 0, pm_a none, pm_i s] (mm x R Z Y o A c G g) (.inl (some (pm_i (nI 0))), mm x R Z Y o A c G g) := en rfl (b33_0a hR rfl)
theorem c32 (hR : RS R) (hr : Rel A c H h) {t s : Nat} {q : Int32} (hs1 : 1 ≤ s) (hs : s ≤ 8) (hI : Iv 8 t H) (ht : t + 100 < 2 ^ 30) : cX ns (d + 5) 32 [pm_r 0 0, pm_i q, pm_i (nI s)] x R Z Y o A c G g (.inl (some (pm_i (bI (ispt H q))))) (cpF H q s) h := by
  refine cxi rfl (b32_0 hR ?_)
  have key : ∀ n k, k + n = 8 → ∀ (t' : Nat) (A : Nat → Nat → Nat → Int32) (K : Nat → Nat → Int32) (b : Bool), t' + 7 * n ≤ t + 56 → Rel A c K h → Iv 8 t' K → ((b = false ∧ K = H ∧ ∀ j, j < k → (lv H j && decide (H 23 j = q)) = false) ∨ (b = true ∧ ispt H q = true)) → pW ns (d + 4) 32 5 [some (pm_r 0 0), some (pm_i q), some (pm_i (nI s)), some (pm_i (bI b)), some (pm_i (nI k))] [] (mm x R Z Y o A c G g) (cQ x R Z Y o c G g (.inl (some (pm_i (bI (ispt H q))))) (cpN K q s k n) h) := by
    intro n
    induction n with
    | zero =>
      intro k hk t' A K b ht' hr hI hb
      have : k = 8 := by omega
      subst this
      have e : bI b = bI (ispt H q) := by
        rcases hb with ⟨rfl, -, hj⟩ | ⟨rfl, hj⟩
        · rw [show ispt H q = false from ex_no.mpr hj]
        · rw [hj]
      refine t32_5 hR (fun _ => b32_49 hR ?_ ?_) (fun k => absurd (by decide) k)
      · exact bI_z
      · rw [e]
        exact ⟨A, hr, rfl⟩
    | succ n ih =>
      intro k hk t' A K b ht' hr hI hb
      have hk8 : k < 8 := by omega
      have hno : ¬ (lv K k = true ∧ K 23 k = q) → pW ns (d + 4) 32 5 [some (pm_r 0 0), some (pm_i q), some (pm_i (nI s)), some (pm_i (bI b)), some (pm_i (nI k + nI 1))] [] (mm x R Z Y o A c G g) (cQ x R Z Y o c G g (.inl (some (pm_i (bI (ispt H q))))) (cpN K q s k (n + 1)) h) := by
        intro hn
        simp only [cpN, if_neg hn]
        rw [nI_s]
        refine ih (k + 1) (by omega) t' A K b (by omega) hr hI ?_
        rcases hb with ⟨e, rfl, hj⟩ | hb
        · refine Or.inl ⟨e, rfl, fun j hj' => ?_⟩
          by_cases e : j = k
          · subst e
            simpa using hn
          · exact hj j (by omega)
        · exact Or.inr hb
      refine t32_5 hR (fun k => absurd k (nI_ge hk8 (by decide))) (fun _ => b32_12 hR rfl hk8 (fun k' => ?_) (fun k' => b32_43 hR (hno (fun e => k' (by rw [r_8 hr hk8]; exact e.2)))))
      rw [r_8 hr hk8] at k'
      by_cases hl : lv K k = true
      · obtain ⟨A1', hr1, hE1⟩ := c33 (ns := ns) (d := d) (x := x) (Z := Z) (Y := Y) (o := o) (G := G) (g := g) hR hr hk8 hs1 hs hI (by omega) hl
        refine b32_26 hR rfl hk8 hE1 (t32_38 hR (fun k => absurd k (by decide)) (fun _ => ?_))
        simp only [cpN, if_pos (And.intro hl k')]
        rw [nI_s]
        refine ih (k + 1) (by omega) (t' + 7) A1' (comF K k s) true (by omega) hr1 (iv_com hI hk8 hs) (Or.inr ⟨rfl, ?_⟩)
        rcases hb with ⟨-, rfl, -⟩ | hb
        · exact ex_iff.mpr ⟨k, hk8, by simp [hl, k']⟩
        · exact hb.2
      · have hl' : lv K k = false := by simpa using hl
        refine b32_26 hR rfl hk8 (c33d (d := d + 2) hR hr hI.1.1 hk8 hl') (t32_38 hR (fun _ => ?_) (fun k => absurd (by decide) k))
        exact hno (fun e => hl e.1)
  exact key 8 0 rfl t A H false (by omega) hr hI (Or.inl ⟨rfl, rfl, fun j hj => absurd hj (by omega)⟩)
end C3
