/-! @84.s1@ the class: settling, beginning -/
def bl2 (G : Nat → Nat → Int32) (T p : Nat) : Bool := decide (G 21 p = nI 2) && decide (T < od G p)
section S2
variable {ns d x : Nat} {R : Nat → Nat → Nat → Option (Nat × Nat)} {Z A : Nat → Nat → Nat → Int32} {Y : Nat → Nat → Nat → Int64} {o : Int64} {c g : Nat → Int64} {G : Nat → Nat → Int32} {H : Nat → Nat → Int32} {h : Nat → Int64}
theorem r_od (hr : Rel A c H h) {t p : Nat} (hI : Iv 8 t H) (ht : t < 2 ^ 30) (hp : p < 8) (h2 : H 21 p = nI 2) : A 13 p 5 = nI (od H p) := by
  have e := od_of hI hp h2 ht
  rw [(hr.2.1 p hp).2.2.2.2.2 ((hI.1.2.2.2.2.2.2.1 p hp).2.1 h2) (by rw [h2]; decide), e.1, nI_s, Nat.sub_add_cancel e.2.2]
theorem c38 (hR : RS R) (hr : Rel A c H h) {t T : Nat} (hI : Iv 8 t H) (ht : t < 2 ^ 30) (hT : T < 2 ^ 30) : ((∀ j, j < 8 → bl2 H T j = false) ∧ pE ns (d + 1) 38 [pm_r 0 0, pm_i (nI T)] (mm x R Z Y o A c G g) (.inl (some (pm_a none)), mm x R Z Y o A c G g)) ∨ ∃ p, p < 8 ∧ bl2 H T p = true ∧ (∀ j, j < 8 → bl2 H T j = true → od H p ≤ od H j) ∧ pE ns (d + 1) 38 [pm_r 0 0, pm_i (nI T)] (mm x R Z Y o A c G g) (.inl (some (pm_r 8 p)), mm x R Z Y o A c G g) := by
  have odb : ∀ j, j < 8 → H 21 j = nI 2 → od H j < 2 ^ 30 := fun j hj h2 => by
    have := (od_of hI hj h2 ht).2.1
    omega
  have hw : pW ns d 38 0 (pm_ent [pm_r 0 0, pm_i (nI T)] ++ List.replicate (pm_maxL 38 - (pm_ent [pm_r 0 0, pm_i (nI T)]).length) none) [] (mm x R Z Y o A c G g) (fun r => ((∀ j, j < 8 → bl2 H T j = false) ∧ r = (.inl (some (pm_a none)), mm x R Z Y o A c G g)) ∨ ∃ p, p < 8 ∧ bl2 H T p = true ∧ (∀ j, j < 8 → bl2 H T j = true → od H p ≤ od H j) ∧ r = (.inl (some (pm_r 8 p)), mm x R Z Y o A c G g)) := by
    generalize hQ : (fun r : pm_O × pm_M => ((∀ j, j < 8 → bl2 H T j = false) ∧ r = (.inl (some (pm_a none)), mm x R Z Y o A c G g)) ∨ ∃ p, p < 8 ∧ bl2 H T p = true ∧ (∀ j, j < 8 → bl2 H T j = true → od H p ≤ od H j) ∧ r = (.inl (some (pm_r 8 p)), mm x R Z Y o A c G g)) = Q
    have key2 : ∀ n k, k + n = 8 → ∀ i, i < k → bl2 H T i = true → (∀ j, j < k → bl2 H T j = true → od H i ≤ od H j) → ∀ u4, pW ns d 38 4 [some (pm_r 0 0), some (pm_i (nI T)), some (pm_r 8 i), some (pm_i (nI k)), u4] [] (mm x R Z Y o A c G g) Q := by
      intro n
      induction n with
      | zero =>
        intro k hk i hi hb hm u4
        have : k = 8 := by omega
        subst this
        refine t38_4a hR hi (fun _ => ?_) (fun k => absurd (by decide) k)
        rw [← hQ]
        exact Or.inr ⟨i, hi, hb, hm, rfl⟩
      | succ n ih =>
        intro k hk i hi hb hm u4
        have hk8 : k < 8 := by omega
        have hi8 : i < 8 := by omega
        have hbi := hb
        unfold bl2 at hbi
        simp at hbi
        have keep : (bl2 H T k = true → od H i ≤ od H k) → ∀ u4, pW ns d 38 4 [some (pm_r 0 0), some (pm_i (nI T)), some (pm_r 8 i), some (pm_i (nI k + nI 1)), u4] [] (mm x R Z Y o A c G g) Q := by
          intro hn u4
          rw [nI_s]
          refine ih (k + 1) (by omega) i (by omega) hb (fun j hj hbj => ?_) _
          by_cases e : j = k
          · subst e
            exact hn hbj
          · exact hm j (by omega) hbj
        refine t38_4a hR hi8 (fun k => absurd k (nI_ge hk8 (by decide))) (fun _ => b38_10a hR hi8 rfl hk8 (fun q => b38_27a hR hi8 hk8 (fun q2 => b38_64a hR hi8 (keep ?_ _)) (fun q2 => b38_39a hR hi8 hk8 (fun q3 => b38_64a hR hi8 (keep ?_ _)) (fun q3 => b38_61 hR hk8 ?_))) (fun q => b38_64a hR hi8 (keep ?_ _)))
        · rw [r_6 hr hk8] at q
          rw [r_od hr hI ht hk8 q, nI_leI (by have := odb k hk8 q; omega) (by omega)] at q2
          intro hb'
          unfold bl2 at hb'
          simp at hb'
          omega
        · rw [r_6 hr hk8] at q
          rw [r_od hr hI ht hk8 q, r_od hr hI ht hi8 hbi.1, nI_leI (by have := odb i hi8 hbi.1; omega) (by have := odb k hk8 q; omega)] at q3
          exact fun _ => q3
        · rw [r_6 hr hk8] at q
          rw [r_od hr hI ht hk8 q, nI_leI (by have := odb k hk8 q; omega) (by omega)] at q2
          rw [r_od hr hI ht hk8 q, r_od hr hI ht hi8 hbi.1, nI_leI (by have := odb i hi8 hbi.1; omega) (by have := odb k hk8 q; omega)] at q3
          rw [nI_s]
          refine ih (k + 1) (by omega) k (by omega) (by unfold bl2; simp [q]; omega) (fun j hj hbj => ?_) _
          by_cases e : j = k
          · subst e
            omega
          · have := hm j (by omega) hbj
            omega
        · rw [r_6 hr hk8] at q
          intro hb'
          unfold bl2 at hb'
          simp [q] at hb'
    have key1 : ∀ n k, k + n = 8 → (∀ j, j < k → bl2 H T j = false) → ∀ u4, pW ns d 38 4 [some (pm_r 0 0), some (pm_i (nI T)), some (pm_a none), some (pm_i (nI k)), u4] [] (mm x R Z Y o A c G g) Q := by
      intro n
      induction n with
      | zero =>
        intro k hk hm u4
        have : k = 8 := by omega
        subst this
        refine t38_4 hR (fun _ => ?_) (fun k => absurd (by decide) k)
        rw [← hQ]
        exact Or.inl ⟨hm, rfl⟩
      | succ n ih =>
        intro k hk hm u4
        have hk8 : k < 8 := by omega
        have keep : bl2 H T k = false → ∀ u4, pW ns d 38 4 [some (pm_r 0 0), some (pm_i (nI T)), some (pm_a none), some (pm_i (nI k + nI 1)), u4] [] (mm x R Z Y o A c G g) Q := by
          intro hn u4
          rw [nI_s]
          refine ih (k + 1) (by omega) (fun j hj => ?_) _
          by_cases e : j = k
          · subst e
            exact hn
          · exact hm j (by omega)
        refine t38_4 hR (fun k => absurd k (nI_ge hk8 (by decide))) (fun _ => b38_10 hR rfl hk8 (fun q => b38_27 hR hk8 (fun q2 => b38_64 hR (keep ?_ _)) (fun q2 => b38_39 hR hk8 ?_)) (fun q => b38_64 hR (keep ?_ _)))
        · rw [r_6 hr hk8] at q
          rw [r_od hr hI ht hk8 q, nI_leI (by have := odb k hk8 q; omega) (by omega)] at q2
          unfold bl2
          simp
          omega
        · rw [r_6 hr hk8] at q
          rw [r_od hr hI ht hk8 q, nI_leI (by have := odb k hk8 q; omega) (by omega)] at q2
          rw [nI_s]
          refine key2 n (k + 1) (by omega) k (by omega) (by unfold bl2; simp [q]; omega) (fun j hj hbj => ?_) _
          by_cases e : j = k
          · subst e
            omega
          · rw [hm j (by omega)] at hbj
            cases hbj
        · rw [r_6 hr hk8] at q
          unfold bl2
          simp [q]
    exact b38_0 hR (key1 8 0 rfl (fun j hj => by omega) _)
  obtain ⟨r, hq, hE⟩ := enQ rfl hw
  rcases hq with ⟨h1, rfl⟩ | ⟨p, h1, h2, h3, rfl⟩
  · exact Or.inl ⟨h1, hE⟩
  · exact Or.inr ⟨p, h1, h2, h3, hE⟩
theorem c39d (hR : RS R) (hr : Rel A c H h) {t p : Nat} (hp : p < 8) (hI : Iv 8 t H) (ht : t + 100 < 2 ^ 30) : cX ns (d + 6) 39 [pm_r 0 0, pm_r 8 p, pm_i (-nI 10)] x R Z Y o A c G g (.inl none) (cpF H (H 23 p) 5) h := by
  obtain ⟨A1, hr1, hE1⟩ := c32 (ns := ns) (d := d) (x := x) (Z := Z) (Y := Y) (o := o) (G := G) (g := g) (q := H 23 p) (s := 5) hR hr (by decide) (by decide) hI ht
  rw [← r_8 hr hp] at hE1
  exact cxi rfl (t39_0 hR hp (fun _ => b39_6 hR hp hE1 (b39_15 hR ⟨A1, hr1, rfl⟩)) (fun k => absurd rfl k))
theorem c39 (hR : RS R) {K : Nat → Nat → Int32} (hr : Rel A c K h) {t p : Nat} {v : Int32} (hp : p < 8) (hz : K 21 p ≠ nI 0) (hI : Iv 8 t (finF K p v)) (ht : t + 100 < 2 ^ 30) (hv : v ≠ -nI 10) : cX ns (d + 6) 39 [pm_r 0 0, pm_r 8 p, pm_i v] x R Z Y o A c G g (.inl none) (if v = -nI 6 then comF (finF K p v) p 2 else finF K p v) h := by
  obtain ⟨A1, hr1, hE1⟩ := c122 (ns := ns) (d := d + 4) (x := x) (Z := Z) (Y := Y) (o := o) (G := G) (g := g) (v := v) hR hr hp hz
  refine cxi rfl (t39_0 hR hp (fun k => absurd k hv) (fun _ => b39_17 hR hp hE1 (t39_22 hR hp (fun k => ?_) (fun k => ?_))))
  · have hl : lv (finF K p v) p = true := by
      rw [lv_A (hI.1.1 p hp)]
      left
      unfold finF
      rw [v_f (by decide), v_eq]
    obtain ⟨A2, hr2, hE2⟩ := c33 (ns := ns) (d := d + 1) (x := x) (Z := Z) (Y := Y) (o := o) (G := G) (g := g) (s := 2) hR hr1 hp (by decide) (by decide) hI (by omega) hl
    rw [if_pos k]
    exact b39_28 hR hp hE2 (b39_34 hR ⟨A2, hr2, rfl⟩)
  · rw [if_neg k]
    exact ⟨A1, hr1, rfl⟩
/-- the class's settling is the reference's -/
theorem c37 (hR : RS R) (hr : Rel A c H h) {t : Nat} (hI : Iv 8 t H) (ht : t + 700 < 2 ^ 30) (hst : St H) : cX ns (d + 7) 37 [pm_r 0 0] x R Z Y o A c G g (.inl none) (settleF H h) h := by
  have nd := nd
  have key : ∀ μ n s t T (A : Nat → Nat → Nat → Int32) (H : Nat → Nat → Int32), 9 * nb H + ct (bl2 H T) 8 ≤ μ → s + μ < 1000 → nb H ≤ n → Iv 8 t H → t + 56 * nb H + 200 < 2 ^ 30 → T < 2 ^ 30 → St H → Rel A c H h → (∀ q, q < 8 → H 21 q = nI 2 → od H q ≤ T → chF H q = 0) → ∀ u3 u4, pW ns (d + 6) 37 4 [some (pm_r 0 0), some (pm_i (nI T)), some (pm_i (nI s)), u3, u4] [] (mm x R Z Y o A c G g) (cQ x R Z Y o c G g (.inl none) (stN h H n) h) := by
    intro μ
    induction μ using Nat.strongRecOn with
    | ind μ ih =>
      intro n s t T A H hμ hs hn hI ht hT hst hr htr u3 u4
      refine t37_4 hR (fun k => absurd k (nI_ge (by omega) (by decide))) (fun _ => ?_)
      rcases c38 (ns := ns) (d := d + 5) (x := x) (Z := Z) (Y := Y) (o := o) (G := G) (g := g) hR hr hI (by omega) hT with ⟨hno, hE⟩ | ⟨p, hp, hb, hmin, hE⟩
      · have hsel : sel H = 8 := sel_no (fun q hq h2 => by
          refine htr q hq h2 ?_
          have := hno q hq
          unfold bl2 at this
          simp [h2] at this
          exact this)
        refine b37_11n hR hE (b37_16a hR ⟨A, ?_, rfl⟩)
        have : stN h H n = H := by
          cases n with
          | zero => rfl
          | succ n => simp only [stN, if_pos hsel]
        rw [this]
        exact hr
      · have hb' := hb
        unfold bl2 at hb'
        simp at hb'
        obtain ⟨h2, hTo⟩ := hb'
        have hod := od_of hI hp h2 (by omega)
        have hcl := Cl_of hI hp
        obtain ⟨a0, a2, a1⟩ := c40 (ns := ns) (d := d + 1) (x := x) (Z := Z) (Y := Y) (o := o) (G := G) (g := g) hR hr hp hI.1.1 hI.1.2.1 hI.1.2.2.1 (fun k hk h4 => (hI.1.2.2.2.2.2.2.1 k hk).2.2.1 (by grind) (by grind)) hcl hI.2.2.2.1 hI.2.2.2.2.1 (wr_b hI) (by omega) (h34_of hI hp h2)
        have hlow : ∀ q, q < 8 → H 21 q = nI 2 → od H q < od H p → chF H q = 0 := by
          intro q hq hq2 hlt
          by_cases hqT : od H q ≤ T
          · exact htr q hq hq2 hqT
          · have := hmin q hq (by unfold bl2; simp [hq2]; omega)
            omega
        by_cases hc0 : chF H p = 0
        · have hE2 := a0 hc0
          refine b37_11 hR hE (b37_16 hR hp hE2 (t37_27 hR hp (fun _ => ?_) (fun k => absurd rfl k)))
          rw [r_od hr hI (by omega) hp h2, nI_s]
          have hlt : ct (bl2 H (od H p)) 8 < ct (bl2 H T) 8 := by
            refine (ct_lt (P := bl2 H T) (P' := bl2 H (od H p)) (fun k hk => ?_) hb ?_ (n := 8)).2 hp
            · unfold bl2 at hk ⊢
              simp at hk ⊢
              exact ⟨hk.1, by omega⟩
            · unfold bl2
              simp
          refine ih (9 * nb H + ct (bl2 H (od H p)) 8) (by omega) n (s + 1) t (od H p) A H (Nat.le_refl _) (by omega) hn hI ht (by omega) hst hr (fun q hq hq2 hle => ?_) _ _
          by_cases e : od H q = od H p
          · rw [od_inj hI hq hp hq2 h2 (by omega) e]
            exact hc0
          · exact hlow q hq hq2 (by omega)
        · have hsel : sel H = p := sel_is hI (by omega) hp h2 (by omega) hlow
          have hs8 : sel H ≠ 8 := by omega
          obtain ⟨hI', hn'⟩ := iv_step (g := h) hI hs8
          obtain ⟨n', rfl⟩ : ∃ n', n = n' + 1 := ⟨n - 1, by omega⟩
          have estN : stN h H (n' + 1) = stN h (stepF H h) n' := by simp only [stN, if_neg hs8]
          rw [estN]
          have hcle := chF_le (G := H) (p := p)
          have hct := ct_le (bl2 (stepF H h) 0) 8
          have nx : ∀ A', Rel A' c (stepF H h) h → ∀ u3 u4, pW ns (d + 6) 37 54 [some (pm_r 0 0), some (pm_i (nI T)), some (pm_i (nI s)), u3, u4] [] (mm x R Z Y o A' c G g) (cQ x R Z Y o c G g (.inl none) (stN h (stepF H h) n') h) := by
            intro A' hr' u3 u4
            refine b37_54 hR ?_
            rw [nI_s]
            refine ih (9 * nb (stepF H h) + ct (bl2 (stepF H h) 0) 8) (by omega) n' (s + 1) (t + 56) 0 A' (stepF H h) (Nat.le_refl _) (by omega) (by omega) hI' (by omega) (by decide) (sz_step hst) hr' (fun q hq hq2 hle => ?_) _ _
            have := (od_of hI' hq hq2 (by omega)).2.2
            omega
          by_cases hc2 : chF H p = 2
          · have hE2 := a2 hc2
            obtain ⟨A1, hr1, hE3⟩ := c39d (ns := ns) (d := d) (x := x) (Z := Z) (Y := Y) (o := o) (G := G) (g := g) hR hr hp hI (by omega)
            have e : stepF H h = cpF H (H 23 p) 5 := by
              unfold stepF
              rw [hsel, if_pos hc2]
            refine b37_11 hR hE (b37_16 hR hp hE2 (t37_27 hR hp (fun k => absurd k (by decide)) (fun _ => b37_47 hR hp hE3 (nx A1 ?_ _ _))))
            rw [e]
            exact hr1
          · have hc1 : chF H p = 1 := by omega
            obtain ⟨A1, hr1, hE2⟩ := a1 hc1
            have h34 := h34_of hI hp h2
            have h34' : H 34 p = nI 1 ∨ H 34 p = nI 2 ∨ H 34 p = nI 3 := by
              rcases h34 with e | e | e | e
              · exact Or.inl e
              · exact Or.inr (Or.inl e)
              · exact Or.inr (Or.inr e)
              · rw [chF_W, e] at hc1
                exact absurd (show (0 : Nat) = 1 from hc1) (by decide)
            have hpf : Iv 8 (t + 8) (pfF H (h p) p) := by
              rw [pfF_W]
              refine iv_pf hI hp h34' ?_ (by rw [← chF_W]; exact hc1)
              rw [v_id rfl]
              exact hcl
            have h21 : pfF H (h p) p 21 p = nI 2 := by rw [pfF_W, pf_21 (by rw [h2]; decide)]; exact h2
            have hfin : Iv 8 (t + 8) (finF (pfF H (h p) p) p (pfV H p)) := iv_fin hpf hp (Or.inr h21)
            have hne := pv_ne (t := t) (w := H 34 p) hst hp (cl_36 hI hp)
            rw [← pfV_W] at hne
            obtain ⟨A2, hr2, hE3⟩ := c39 (ns := ns) (d := d) (x := x) (Z := Z) (Y := Y) (o := o) (G := G) (g := g) (v := pfV H p) hR hr1 hp (by rw [h21]; decide) hfin (by omega) hne.2
            have e : stepF H h = ansF H (h p) p := by
              unfold stepF
              rw [hsel, if_neg hc2]
            refine b37_11 hR hE (b37_16 hR hp hE2 (t37_27 hR hp (fun k => absurd k hne.1) (fun _ => b37_47 hR hp hE3 (nx A2 ?_ _ _))))
            rw [e]
            exact hr2
  have hnb := ct_le (fun p => decide (H 21 p = nI 2)) 8
  have hnb' : nb H ≤ 8 := hnb
  have hct := ct_le (bl2 H 0) 8
  refine cxi rfl (b37_0 hR (key (9 * nb H + ct (bl2 H 0) 8) 8 0 t 0 A H (Nat.le_refl _) (by omega) hnb' hI (by omega) (by decide) hst hr (fun q hq hq2 hle => ?_) _ _))
  have := (od_of hI hq hq2 (by omega)).2.2
  omega
theorem c121 (hR : RS R) {K : Nat → Nat → Int32} (hr : Rel A c K h) {p : Nat} {v w : Int32} (hp : p < 8) (hv : v = w + nI 1) (h1 : K 21 p = nI 1) : cX ns (d + 1) 121 [pm_r 8 p, pm_i v] x R Z Y o A c G g (.inl none) (pm_v (pm_v (pm_v K 39 p w) 21 p (nI 2)) 26 p (-nI 9)) h := by
  refine cxi rfl (b121_0 hR hp ⟨_, ?_, rfl⟩)
  have e : pm_u (pm_u (pm_u A 8 p 6 (nI 2)) 8 p 11 (-nI 9)) 13 p 5 v = pm_u (pm_u (pm_u A 13 p 5 v) 8 p 6 (nI 2)) 8 p 11 (-nI 9) := by
    rw [u_swap (f := 8) (k := 11) (by omega), u_swap (f := 8) (k := 6) (f' := 13) (by omega)]
  rw [e]
  have a1 := rl_5 (v := v) hp hr hv
  have a2 : Rel (pm_u (pm_u A 13 p 5 v) 8 p 6 (nI 2)) c (pm_v (pm_v K 39 p w) 21 p (nI 2)) h := rl_21 hp a1 (fun _ => r_7 a1 hp (by rw [v_f (by decide), h1]; decide)) (fun e => absurd e (by decide)) (fun e => absurd e (by decide)) (fun _ _ => by rw [u_eq, v_eq, hv])
  exact rl_u a2 (t11 hp) (by simp)
theorem c36 (hR : RS R) {p t : Nat} {w : Int32} (hp : p < 8) (hr : Rel A c (pm_v H 34 p w) h) (hI : Iv 8 t H) (ht : t + 100 < 2 ^ 30) (hst : St H) (h1 : H 21 p = nI 1) (hw : w = nI 1 ∨ w = nI 2 ∨ w = nI 3 ∨ w = nI 4) (hc : Cl (pm_v H 34 p w) p) : cX ns (d + 6) 36 [pm_r 0 0, pm_r 8 p] x R Z Y o A c G g (.inl (some (pm_i (bgV w H p)))) (bgF w H h p) h := by
  have nd := nd
  have h0 := h34_0 hI hp h1
  have e1 : pfF (pm_v H 34 p w) (h p) p = pm_v (pfW w H (h p) p) 34 p w := by rw [pfF_W, v_eq, pf_34]
  have e2 : pfV (pm_v H 34 p w) p = pvW w H p := by rw [pfV_W, v_eq, pv_34]
  have e3 : chF (pm_v H 34 p w) p = chW w H p := by rw [chF_W, v_eq, ch_34]
  have e4 : pm_v (pm_v (pfW w H (h p) p) 34 p w) 34 p (nI 0) = pfW w H (h p) p := by rw [v_v, v_id (by rw [pf_at, h0])]
  obtain ⟨a0, a2, a1⟩ := c40 (ns := ns) (d := d) (x := x) (Z := Z) (Y := Y) (o := o) (G := G) (g := g) (H := pm_v H 34 p w) (t := t) hR hr hp hI.1.1 hI.1.2.1 hI.1.2.2.1 (fun k hk h4 => by
    rw [v_f (by decide)] at h4
    by_cases e : k = p
    · subst e
      rw [h1] at h4
      exact absurd h4 (by decide)
    · rw [v_k e]
      exact (hI.1.2.2.2.2.2.2.1 k hk).2.2.1 (by grind) (by grind)) hc hI.2.2.2.1 (I11_congr2 (G := H) (fun k => v_f (by decide)) (v_f (by decide)) (v_f (by decide)) hI.2.2.2.2.1) (show ∃ w', w' ≤ t ∧ H 20 28 = nI w' from wr_b hI) (by omega) (by rw [v_eq]; exact hw)
  rw [e3] at a0 a1 a2
  have hle : chW w H p ≤ 2 := by rw [← e3]; exact chF_le
  have blk : chW w H p ≠ 1 → ∀ u, pW ns (d + 5) 36 18 [some (pm_r 0 0), some (pm_r 8 p), u] [] (mm x R Z Y o A c G g) (cQ x R Z Y o c G g (.inl (some (pm_i (bgV w H p)))) (bgF w H h p) h) := by
    intro hn u
    have eb : bgV w H p = -nI 9 := if_neg hn
    have ef : bgF w H h p = blF w H p := if_neg hn
    rw [eb, ef]
    have ebl := r_bl hr
    rw [v_f (by decide)] at ebl
    have b1 : Rel (pm_u A 0 0 3 (A 0 0 3 + nI 1)) c (pm_v (pm_v H 34 p w) 20 20 (H 20 20 + nI 1)) h := by
      rw [ebl]
      exact rl_u hr tbl (by simp)
    obtain ⟨A1, hr1, hE1⟩ := c121 (ns := ns) (d := d + 4) (x := x) (Z := Z) (Y := Y) (o := o) (G := G) (g := g) (w := H 20 20) (v := pm_u A 0 0 3 (A 0 0 3 + nI 1) 0 0 3) hR b1 hp (by rw [u_eq, ebl]) (by rw [v_f (by decide), v_f (by decide)]; exact h1)
    refine b36_18 hR hp hE1 (b36_36 hR hp ⟨A1, ?_, rfl⟩)
    have : blF w H p = pm_v (pm_v (pm_v (pm_v (pm_v H 34 p w) 20 20 (H 20 20 + nI 1)) 39 p (H 20 20)) 21 p (nI 2)) 26 p (-nI 9) := by
      unfold blF
      rw [v_swap (f := 39) (f' := 20) (by decide), v_swap (f := 26) (f' := 20) (by decide), v_swap (f := 21) (f' := 20) (by decide), v_swap (f := 26) (f' := 39) (by decide), v_swap (f := 21) (f' := 39) (by decide)]
    rw [this]
    exact hr1
  by_cases hc1 : chW w H p = 1
  · have hw' : w = nI 1 ∨ w = nI 2 ∨ w = nI 3 := by
      rcases hw with h | h | h | h
      · exact Or.inl h
      · exact Or.inr (Or.inl h)
      · exact Or.inr (Or.inr h)
      · subst h
        exact absurd (show (0 : Nat) = 1 from hc1) (by decide)
    obtain ⟨A1, hr1, hE1⟩ := a1 hc1
    rw [e1] at hr1
    rw [e2] at hE1
    have hne := pv_ne (t := t) (w := w) hst hp (cl_36 hI hp)
    have hpf : Iv 8 (t + 8) (pfW w H (h p) p) := iv_pf hI hp hw' hc hc1
    have hr2 : Rel (pm_u A1 13 p 0 (nI 0)) c (pfW w H (h p) p) h := by
      rw [← e4]
      exact rl_34 hp hr1 (fun e => absurd e (by decide)) (fun e => absurd rfl e)
    have eb : bgV w H p = pvW w H p := if_pos hc1
    refine cxi rfl (b36_0 hR hp hE1 (t36_5 hR hp (fun k => absurd k hne.1) (fun _ k => absurd k hne.2) (fun _ _ k => ?_) (fun _ _ k => ?_)))
    · have hl : lv (pfW w H (h p) p) p = true := by
        rw [lv_A (hpf.1.1 p hp)]
        left
        rw [pf_21 (by rw [h1]; decide)]
        exact h1
      obtain ⟨A2, hr3, hE2⟩ := c33 (ns := ns) (d := d + 1) (x := x) (Z := Z) (Y := Y) (o := o) (G := G) (g := g) (s := 2) hR hr2 hp (by decide) (by decide) hpf (by omega) hl
      have ef : bgF w H h p = comF (pfW w H (h p) p) p 2 := by
        unfold bgF
        rw [if_pos hc1, if_pos k]
      rw [eb, ef]
      exact b36_56 hR hp hE2 (b36_62 hR ⟨A2, hr3, rfl⟩)
    · have ef : bgF w H h p = pfW w H (h p) p := by
        unfold bgF
        rw [if_pos hc1, if_neg k]
      rw [eb, ef]
      exact ⟨_, hr2, rfl⟩
  · by_cases hc0 : chW w H p = 0
    · exact cxi rfl (b36_0 hR hp (a0 hc0) (t36_5 hR hp (fun _ => blk hc1 _) (fun k => absurd rfl k) (fun k => absurd rfl k) (fun k => absurd rfl k)))
    · exact cxi rfl (b36_0 hR hp (a2 (by omega)) (t36_5 hR hp (fun k => absurd k (by decide)) (fun _ _ => blk hc1 _) (fun _ k => absurd rfl k) (fun _ k => absurd rfl k)))
end S2
