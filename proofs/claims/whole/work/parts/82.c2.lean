/-! @81.c1@ the class: ending, delivery, sending -/
def fzK (G : Nat → Nat → Int32) (p n : Nat) : Nat → Nat → Int32 := fun f k => if f = 32 ∧ 6 * p ≤ k ∧ k < 6 * p + n then nI 0 else G f k
def rpK (G : Nat → Nat → Int32) (p n : Nat) : Nat → Nat → Int32 := fun f k => if f = 22 ∧ k < n ∧ ¬ G 21 k = 0 ∧ G 22 k = nI p then nI 0 else G f k
theorem fzK_s {G : Nat → Nat → Int32} {p n : Nat} : pm_v (fzK G p n) 32 (6 * p + n) (nI 0) = fzK G p (n + 1) := by
  funext f k
  unfold pm_v fzK
  grind
theorem u_swap {A : Nat → Nat → Nat → Int32} {f i k f' i' k' : Nat} {v v' : Int32} (h : ¬ (f = f' ∧ i = i' ∧ k = k')) : pm_u (pm_u A f i k v) f' i' k' v' = pm_u (pm_u A f' i' k' v') f i k v := by
  funext a b e
  unfold pm_u
  grind
/-- CHILD that comes is the reference's telling of the parent -/
theorem com7 {t j : Nat} {K : Nat → Nat → Int32} (hI : Iv 8 t K) (hj : j < 8) (hA : A1 K j) : comF K j 7 = tellF K j := by
  have nd := nd
  have hl := (lv_A (hI.1.1 j hj)).mpr hA
  have e128 : ((nI 1) <<< (nI 7 &&& 31)) = nI 128 := by decide
  have ad : ad1 K j 7 = K := by
    unfold ad1
    rw [if_neg (by decide), if_neg (by decide)]
  have i4 := hI.1.2.2.2.1 j hj 7 (by decide)
  have hadm : admF K j 7 = if K 33 (8 * j + 7) = nI 2 then pm_v K 25 j (K 25 j ||| nI 128) else K := by
    unfold admF
    rw [ad, e128]
    by_cases e : K 33 (8 * j + 7) = nI 2
    · rw [if_pos (by simp [stp, e]; decide), if_pos e]
    · rw [if_neg (by simp [stp, e]), if_neg e]
  have hcom : comF K j 7 = delF (admF K j 7) j := by
    unfold comF
    rw [if_pos hl, if_neg (by decide)]
  by_cases h3 : K 21 j = nI 3
  · have : ¬ (admF K j 7 21 j = nI 1 ∨ admF K j 7 21 j = nI 2) := by
      rw [adm5 (by decide) _ _ (by omega)]
      grind
    rw [hcom, del_stop this, hadm]
    unfold tellF
    by_cases e : K 33 (8 * j + 7) = nI 2
    · rw [if_pos e, if_pos e, if_pos (Or.inl h3)]
    · rw [if_neg e, if_neg e]
  · have ha : K 21 j = nI 1 ∨ K 21 j = nI 2 := by
      unfold A1 at hA
      grind
    have h5 := hI.1.2.2.2.2.1 j hj (by omega) ha 7 (by decide) (by decide)
    rw [due_iff (by decide)] at h5
    rw [com_one hI hj (by decide) (by decide) (by decide) ha, hadm]
    unfold tellF
    by_cases e : K 33 (8 * j + 7) = nI 2
    · rw [if_pos e, if_pos e]
      unfold dst
      have e21 : pm_v K 25 j (K 25 j ||| nI 128) 21 j = K 21 j := v_f (by decide)
      have e33 : pm_v K 25 j (K 25 j ||| nI 128) 33 (8 * j + 7) = nI 2 := by rw [v_f (by decide)]; exact e
      have hd : due (pm_v K 25 j (K 25 j ||| nI 128)) j 7 = !bt (K 24 j) 7 := by
        rw [due_iff (by decide), v_eq, v_f (by decide), bt_or, bt128 (by decide)]
        simp
      by_cases hm : bt (K 24 j) 7 = true
      · rw [if_neg (by rw [hd, hm]; simp), if_pos (Or.inr ((shr_bit (Or.inl rfl)).mpr hm))]
      · have hm' : bt (K 24 j) 7 = false := by simpa using hm
        rw [if_pos ⟨by rw [e21]; exact ha, by rw [hd, hm']; rfl⟩, if_pos e33, if_neg (by rintro (h' | h'); exact h3 h'; exact hm ((shr_bit (Or.inl rfl)).mp h'))]
        have : fgt (pm_v K 25 j (K 25 j ||| nI 128)) j 7 = K := by
          unfold fgt
          rw [v_v, v_eq]
          refine v_id ?_
          have hb : bt (K 25 j) 7 = false := by rw [hm'] at h5; simpa using h5
          rw [e128]
          have hx : ∀ x : Int32, bt x 7 = false → x = (x ||| nI 128) &&& (nI 128 ^^^ -nI 1) := by
            intro x hx
            rw [← Int32.toBitVec_inj]
            ext i hi
            have e1 : (nI 128).toBitVec = BitVec.twoPow 32 7 := by decide
            have e2 : (nI 128 ^^^ -nI 1).toBitVec = ~~~ (BitVec.twoPow 32 7) := by decide
            rw [Int32.toBitVec_and, Int32.toBitVec_or, e1, e2]
            simp only [BitVec.getElem_and, BitVec.getElem_or, BitVec.getElem_not, BitVec.getElem_twoPow]
            by_cases e : i = 7
            · subst e
              unfold bt at hx
              rw [BitVec.getLsbD_eq_getElem hi] at hx
              simp [hx]
            · simp [Ne.symm e, e]
          exact hx _ hb
        rw [this]
    · rw [if_neg e, if_neg e]
      exact dst_no (fun _ => by rw [due_iff (by decide)]; exact h5)
section C2
variable {ns d x : Nat} {R : Nat → Nat → Nat → Option (Nat × Nat)} {Z A : Nat → Nat → Nat → Int32} {Y : Nat → Nat → Nat → Int64} {o : Int64} {c g : Nat → Int64} {G : Nat → Nat → Int32} {H : Nat → Nat → Int32} {h : Nat → Int64}
theorem c111 (hR : RS R) (hr : Rel A c H h) {p : Nat} {w : Int32} (hp : p < 8) : ∃ A', Rel A' c (pm_v (pm_v (pm_v (fz H p) 34 p (nI 0)) 25 p (nI 0)) 29 p w) h ∧ A' 8 p 14 = w ∧ pE ns (d + 1) 111 [pm_r 8 p, pm_i w] (mm x R Z Y o A c G g) (.inl none, mm x R Z Y o A' c G g) := by
  have hw : pW ns d 111 0 (pm_ent [pm_r 8 p, pm_i w] ++ List.replicate (pm_maxL 111 - (pm_ent [pm_r 8 p, pm_i w]).length) none) [] (mm x R Z Y o A c G g) (fun r => ∃ A', (Rel A' c (pm_v (pm_v (pm_v (fz H p) 34 p (nI 0)) 25 p (nI 0)) 29 p w) h ∧ A' 8 p 14 = w) ∧ r = (.inl none, mm x R Z Y o A' c G g)) := by
    refine b111_0 hR hp ?_
    have key : ∀ n k (A : Nat → Nat → Nat → Int32), k + n = 6 → Rel A c (fzK H p k) h → pW ns d 111 2 [some (pm_r 8 p), some (pm_i w), some (pm_i (nI k))] [] (mm x R Z Y o A c G g) (fun r => ∃ A', (Rel A' c (pm_v (pm_v (pm_v (fz H p) 34 p (nI 0)) 25 p (nI 0)) 29 p w) h ∧ A' 8 p 14 = w) ∧ r = (.inl none, mm x R Z Y o A' c G g)) := by
      intro n
      induction n with
      | zero =>
        intro k A hk hr
        have : k = 6 := by omega
        subst this
        refine t111_2 hR hp (fun _ => ⟨_, ⟨?_, u_eq⟩, rfl⟩) (fun k => absurd (by decide) k)
        exact rl_14 hp (rl_25 (rl_34 hp hr (fun e => absurd e (by decide)) (fun e => absurd rfl e)) hp)
      | succ n ih =>
        intro k A hk hr
        have hk6 : k < 6 := by omega
        refine t111_2 hR hp (fun k => absurd k (nI_ge hk6 (by decide))) (fun _ => b111_8 hR hp rfl hk6 ?_)
        rw [nI_s]
        refine ih (k + 1) _ (by omega) ?_
        rw [← fzK_s]
        exact rl_u hr (tfi hp hk6) (by simp)
    refine key 6 0 A rfl ?_
    have : fzK H p 0 = H := by
      funext f k
      unfold fzK
      rw [if_neg (by omega)]
    rw [this]
    exact hr
  obtain ⟨r, ⟨A', ⟨h1, h2⟩, rfl⟩, hE⟩ := enQ rfl hw
  exact ⟨A', h1, h2, hE⟩
theorem c35 (hR : RS R) (hr : Rel A c H h) {t p e : Nat} {w : Int32} (hI : Iv e t H) (h1 : 1 ≤ p) (hp : p < 8) (he : e = p ∨ e = 8) (ha : A1 H p) : cX ns (d + 2) 35 [pm_r 0 0, pm_r 8 p, pm_i w] x R Z Y o A c G g (.inl (some (pm_r 8 (pa H p)))) (endF H p w) h := by
  have nd := nd
  have h0 := nI_0
  obtain ⟨-, hq, e22, hqp, -⟩ := iv_end (how := w) hI h1 hp he ha
  have hz : H 21 p ≠ nI 0 := by
    unfold A1 at ha
    grind
  obtain ⟨A1', hr1, e14, hE1⟩ := c111 (ns := ns) (d := d) (x := x) (Z := Z) (Y := Y) (o := o) (G := G) (g := g) (w := w) hR hr hp
  have hN : ∀ f k, f ≠ 32 → f ≠ 34 → f ≠ 25 → f ≠ 29 → pm_v (pm_v (pm_v (fz H p) 34 p (nI 0)) 25 p (nI 0)) 29 p w f k = H f k := by
    intro f k h1 h2 h3 h4
    rw [v_f h4, v_f h3, v_f h2]
    unfold fz
    rw [if_neg (by omega)]
  generalize hH1 : pm_v (pm_v (pm_v (fz H p) 34 p (nI 0)) 25 p (nI 0)) 29 p w = H1 at hr1 hN
  refine cxi rfl (b35_0 hR hp (c25s hR hp hq ((r_7 hr hp hz).trans e22)) (b35_5 hR hp hq hE1 (b35_17 hR hp hq ?_)))
  have e10 : A1' 10 (pa H p) 7 = H 33 (8 * pa H p + 7) := by rw [r_a hr1 hq (by decide) (by decide), hN _ _ (by decide) (by decide) (by decide) (by decide)]
  have key : ∀ n k (A' : Nat → Nat → Nat → Int32), k + n = 8 → Rel A' c (rpK H1 p k) h → A' 8 p 14 = w → pW ns (d + 1) 35 20 [some (pm_r 0 0), some (pm_r 8 p), some (pm_i w), some (pm_r 8 (pa H p)), some (pm_i (nI k))] [] (mm x R Z Y o A' c G g) (cQ x R Z Y o c G g (.inl (some (pm_r 8 (pa H p)))) (endF H p w) h) := by
    intro n
    induction n with
    | zero =>
      intro k A' hk hr' e14
      have : k = 8 := by omega
      subst this
      have e33 : ∀ k, rpK H1 p 8 33 k = H 33 k := by
        intro k
        unfold rpK
        rw [if_neg (by omega), hN _ _ (by decide) (by decide) (by decide) (by decide)]
      have e21 : rpK H1 p 8 21 p = H 21 p := by
        unfold rpK
        rw [if_neg (by omega), hN _ _ (by decide) (by decide) (by decide) (by decide)]
      have e29 : rpK H1 p 8 29 p = w := by
        unfold rpK
        rw [if_neg (by omega), ← hH1, v_eq]
      have e34 : rpK H1 p 8 34 p = nI 0 := by
        unfold rpK
        rw [if_neg (by omega), ← hH1, v_f (by decide), v_f (by decide), v_eq]
      have fin : ∀ v, v = (if H 33 (8 * pa H p + 7) = nI 1 then nI 0 else nI 4) → Rel (pm_u A' 8 p 6 v) c (endF H p w) h := by
        intro v hv
        have hE : endF H p w = pm_v (rpK H1 p 8) 21 p v := by
          rw [hv]
          funext f k
          unfold endF
          rw [← hH1]
          unfold rp rpK pm_v fz
          have i2 := hI.1.2.1.2
          have hk0 : H 22 0 ≠ nI p := by
            rw [i2]
            intro e'
            rcases (show p = 1 ∨ p = 2 ∨ p = 3 ∨ p = 4 ∨ p = 5 ∨ p = 6 ∨ p = 7 by omega) with e | e | e | e | e | e | e <;> subst e <;> exact absurd e' (by decide)
          by_cases f22 : f = 22
          · subst f22
            simp
            grind
          · simp [f22]
            grind
        rw [hE]
        refine rl_21 hp hr' (fun _ => r_7 hr' hp (by rw [e21]; exact hz)) (fun _ => by rw [e14, e29]) (fun h3 => ?_) (fun h34 => absurd e34 h34)
        rw [hv] at h3
        split at h3 <;> grind
      have e10' : A' 10 (pa H p) 7 = H 33 (8 * pa H p + 7) := by rw [r_a hr' hq (by decide) (by decide), e33]
      refine t35_20 hR hp hq (fun _ k => ⟨_, fin _ ?_, rfl⟩) (fun _ k => ⟨_, fin _ ?_, rfl⟩) (fun k => absurd (by decide) k)
      · rw [e10'] at k
        rw [if_pos k]
      · rw [e10'] at k
        rw [if_neg k]
    | succ n ih =>
      intro k A' hk hr' e14
      have hk8 : k < 8 := by omega
      have e21 : rpK H1 p k 21 k = H 21 k := by
        unfold rpK
        rw [if_neg (by omega), hN _ _ (by decide) (by decide) (by decide) (by decide)]
      have e21' : H1 21 k = H 21 k := hN _ _ (by decide) (by decide) (by decide) (by decide)
      have e22' : rpK H1 p k 22 k = H1 22 k := by
        unfold rpK
        rw [if_neg (by omega)]
      have eno := r_no hr' hp
      have skip : ¬ (¬ H1 21 k = 0 ∧ H1 22 k = nI p) → rpK H1 p (k + 1) = rpK H1 p k := by
        intro hs
        funext f j
        unfold rpK
        by_cases e : f = 22 ∧ j = k
        · obtain ⟨rfl, rfl⟩ := e
          rw [if_neg (by grind), if_neg (by omega)]
        · by_cases e2 : f = 22 ∧ j < k ∧ ¬ H1 21 j = 0 ∧ H1 22 j = nI p
          · rw [if_pos ⟨e2.1, by omega, e2.2.2⟩, if_pos e2]
          · rw [if_neg (by grind), if_neg e2]
      refine t35_20 hR hp hq (fun k => absurd k (nI_ge hk8 (by decide))) (fun k => absurd k (nI_ge hk8 (by decide))) (fun _ => b35_27 hR hp hq rfl hk8 (fun k' => b35_44 hR hp hq rfl hk8 ?_) (fun k' => b35_55 hR hp hq ?_))
      · rw [eno] at k'
        rw [nI_s]
        by_cases hf : H 21 k = nI 0
        · refine ih (k + 1) _ (by omega) ?_ (by rw [u_ne (by omega)]; exact e14)
          rw [skip (by rw [e21', hf]; simp [h0])]
          exact rl_pa hk8 hr' (by rw [e21]; exact hf)
        · refine ih (k + 1) _ (by omega) ?_ (by rw [u_ne (by omega)]; exact e14)
          have e7 := r_7 hr' hk8 (by rw [e21]; exact hf)
          rw [e7, e22'] at k'
          have : rpK H1 p (k + 1) = pm_v (rpK H1 p k) 22 k (nI 0) := by
            funext f j
            unfold pm_v
            by_cases e : f = 22 ∧ j = k
            · rw [if_pos e]
              obtain ⟨rfl, rfl⟩ := e
              unfold rpK
              rw [if_pos ⟨rfl, by omega, by rw [e21', ← h0]; exact hf, k'⟩]
            · rw [if_neg e]
              unfold rpK
              by_cases e2 : f = 22 ∧ j < k ∧ ¬ H1 21 j = 0 ∧ H1 22 j = nI p
              · rw [if_pos ⟨e2.1, by omega, e2.2.2⟩, if_pos e2]
              · rw [if_neg (by grind), if_neg e2]
          rw [this]
          exact rl_p hk8 hr'
      · rw [eno] at k'
        rw [nI_s]
        refine ih (k + 1) _ (by omega) ?_ e14
        rw [skip]
        · exact hr'
        · rintro ⟨q1, q2⟩
          rw [e21', ← h0] at q1
          have e7 := r_7 hr' hk8 (by rw [e21]; exact q1)
          rw [e7, e22'] at k'
          exact k' q2
  refine key 8 0 A1' rfl ?_ e14
  have : rpK H1 p 0 = H1 := by
    funext f k
    unfold rpK
    rw [if_neg (by omega)]
  rw [this]
  exact hr1
theorem c35z (hR : RS R) (hr : Rel A c H h) {t e : Nat} {w : Int32} (hI : Iv e t H) : pE ns (d + 2) 35 [pm_r 0 0, pm_r 8 0, pm_i w] (mm x R Z Y o A c G g) (.inl (some (pm_a none)), mm x R Z Y o A c G g) := by
  have nd := nd
  have hz : H 21 0 ≠ nI 0 := by
    have := hI.1.2.1.1
    grind
  exact en rfl (b35_0n hR (by decide) (c25n hR (by decide) (Or.inl (by rw [r_7 hr (by decide) hz, hI.1.2.1.2]; decide))) (b35_5a hR (by decide) rfl))
/-- what a delivery comes to: nobody to tell, or the parent j, whose CHILD is still to come -/
def dQ (x : Nat) (R : Nat → Nat → Nat → Option (Nat × Nat)) (Z : Nat → Nat → Nat → Int32) (Y : Nat → Nat → Nat → Int64) (o : Int64) (c : Nat → Int64) (G : Nat → Nat → Int32) (g : Nat → Int64) (H : Nat → Nat → Int32) (h : Nat → Int64) (t : Nat) (P : Prop) : pm_O × pm_M → Prop := fun r => (∃ A', Rel A' c H h ∧ r = (.inl (some (pm_a none)), mm x R Z Y o A' c G g)) ∨ (∃ A' K j, j < 8 ∧ Rel A' c K h ∧ tellF K j = H ∧ Iv 8 t K ∧ A1 K j ∧ P ∧ r = (.inl (some (pm_r 8 j)), mm x R Z Y o A' c G g))
theorem c34 (hR : RS R) (hr : Rel A c H h) {t p : Nat} (hp : p < 8) (hI : Iv p t H) (ht : t + 8 < 2 ^ 30) (ha : A1 H p) : ∃ r, dQ x R Z Y o c G g (delF H p) h (t + 8) (∃ s, 1 ≤ s ∧ s < 6 ∧ due H p s = true ∧ (H 21 p = nI 1 ∨ H 21 p = nI 2)) r ∧ pE ns (d + 3) 34 [pm_r 0 0, pm_r 8 p] (mm x R Z Y o A c G g) r := by
  have nd := nd
  have h0 := nI_0
  refine enQ rfl ?_
  refine t34_0 hR hp (fun k => Or.inl ⟨_, ?_, rfl⟩) (fun k => ?_)
  · rw [r_6 hr hp] at k
    rw [del_stop (by grind)]
    exact hr
  · rw [r_6 hr hp] at k
    have ha' : H 21 p = nI 1 ∨ H 21 p = nI 2 := by
      unfold A1 at ha
      grind
    clear k ha
    have key : ∀ n s, s + n = 8 → 1 ≤ s → ∀ (t' : Nat) (A : Nat → Nat → Nat → Int32) (K : Nat → Nat → Int32), t' + n ≤ t + 8 → Rel A c K h → Iv p t' K → Dn p s K → (K 21 p = nI 1 ∨ K 21 p = nI 2) → (∀ k, 1 ≤ k → k < 8 → due K p k = true → due H p k = true) → pW ns (d + 2) 34 12 [some (pm_r 0 0), some (pm_r 8 p), some (pm_i (nI s))] [] (mm x R Z Y o A c G g) (dQ x R Z Y o c G g (delN K p s n) h (t + 8) (∃ s, 1 ≤ s ∧ s < 6 ∧ due H p s = true ∧ (H 21 p = nI 1 ∨ H 21 p = nI 2))) := by
      intro n
      induction n with
      | zero =>
        intro s hs h1 t' A K ht' hr hI hD ha hd
        have : s = 8 := by omega
        subst this
        exact t34_12 hR hp (fun _ => Or.inl ⟨_, hr, rfl⟩) (fun k => absurd (by decide) k)
      | succ n ih =>
        intro s hs h1 t' A K ht' hr hI hD ha hd
        have hs8 : s < 8 := by omega
        obtain ⟨h2, h3⟩ := iv_dst hI hp h1 hs8 hD
        have hd' : (dst K p s 21 p = nI 1 ∨ dst K p s 21 p = nI 2) → ∀ k, 1 ≤ k → k < 8 → due (dst K p s) p k = true → due H p k = true := by
          intro ha2 k hk1 hk8 hdk
          refine hd k hk1 hk8 ?_
          cases hc : due K p k with
          | true => rfl
          | false =>
            rw [dst_due hI hp hs8 hk8 hc ha2] at hdk
            cases hdk
        have nx : ∀ A', Rel A' c (dst K p s) h → (dst K p s 21 p = nI 1 ∨ dst K p s 21 p = nI 2) → pW ns (d + 2) 34 12 [some (pm_r 0 0), some (pm_r 8 p), some (pm_i (nI s + nI 1))] [] (mm x R Z Y o A' c G g) (dQ x R Z Y o c G g (delN K p s (n + 1)) h (t + 8) (∃ s, 1 ≤ s ∧ s < 6 ∧ due H p s = true ∧ (H 21 p = nI 1 ∨ H 21 p = nI 2))) := by
          intro A' hr' ha2
          rw [nI_s]
          exact ih (s + 1) (by omega) (by omega) (t' + 1) A' (dst K p s) (by omega) hr' h2 h3 ha2 (hd' ha2)
        refine t34_12 hR hp (fun k => absurd k (nI_nlt (by omega) (by decide))) (fun _ => b34_18 hR hp (c116 hR hr hp hs8) (t34_23 hR hp (fun k => ?_) (fun k => ?_)))
        · rw [bI_0] at k
          have e : dst K p s = K := dst_no (fun _ => k)
          exact nx A (by rw [e]; exact hr) (by rw [e]; exact ha)
        · rw [bI_n0] at k
          obtain ⟨A1', hr1, hE1⟩ := c117 (ns := ns) (d := d + 1) (x := x) (Z := Z) (Y := Y) (o := o) (G := G) (g := g) hR hr (i := p) (s := s) hp
          have hf := iv_fgt (s := s) hI hp hs8
          have haf : fgt K p s 21 p = nI 1 ∨ fgt K p s 21 p = nI 2 := by
            unfold fgt
            rw [v_f (by decide)]
            exact ha
          have hAf : A1 (fgt K p s) p := by
            unfold A1
            grind
          have e10 : A1' 10 p s = K 33 (8 * p + s) := by rw [r_a hr1 hp h1 hs8, fgt_33]
          have eno := r_no hr1 hp
          -- not ignored: it would not be pending
          have hni : K 33 (8 * p + s) ≠ nI 1 := by
            intro e
            have := hI.1.2.2.2.2.2.1 p hp s h1 hs8 e
            rw [due_iff hs8, this] at k
            simp at k
          have i4 := hI.1.2.2.2.1 p hp s hs8
          have hdef : ¬ K 33 (8 * p + s) = nI 2 → dst K p s = byDefF (fgt K p s) p s := by
            intro hn2
            unfold dst
            rw [if_pos ⟨ha, k⟩, if_neg hn2, if_pos (by grind)]
          have z12 : ∀ (hq : ¬ K 33 (8 * p + s) = nI 2), (p = 0 ∨ 5 < s) → pW ns (d + 2) 34 12 [some (pm_r 0 0), some (pm_r 8 p), some (pm_i (nI s + nI 1))] [] (mm x R Z Y o A1' c G g) (dQ x R Z Y o c G g (delN K p s (n + 1)) h (t + 8) (∃ s, 1 ≤ s ∧ s < 6 ∧ due H p s = true ∧ (H 21 p = nI 1 ∨ H 21 p = nI 2))) := by
            intro hq hps
            have e : dst K p s = fgt K p s := by
              rw [hdef hq]
              unfold byDefF
              split
              · rfl
              · rw [if_neg (by omega), if_neg (by omega)]
            exact nx A1' (by rw [e]; exact hr1) (by rw [e]; exact haf)
          have hno : nI p = 0 ↔ p = 0 := by
            rw [← h0]
            exact nI_eq (by omega) (by decide)
          have z86 : ¬ K 33 (8 * p + s) = nI 2 → p ≠ 0 → 3 < s → s ≤ 5 → pW ns (d + 2) 34 86 [some (pm_r 0 0), some (pm_r 8 p), some (pm_i (nI s))] [] (mm x R Z Y o A1' c G g) (dQ x R Z Y o c G g (delN K p s (n + 1)) h (t + 8) (∃ s, 1 ≤ s ∧ s < 6 ∧ due H p s = true ∧ (H 21 p = nI 1 ∨ H 21 p = nI 2))) := by
            intro hq hp0 hs3 hs5
            have h27 := c27 (ns := ns) (d := d) (x := x) (Z := Z) (Y := Y) (o := o) (G := G) (g := g) (q := A1' 8 p 8) hR hr1 hf.1.1 hf.1.2.1 hf.1.2.2.1
            refine b34_86 hR hp h27 (t34_94 hR hp (fun k2 => ?_) (fun k2 => ?_))
            · rw [bI_0, r_8 hr1 hp] at k2
              have e : dst K p s = haltF (fgt K p s) p := by
                rw [hdef hq]
                unfold byDefF
                rw [if_neg hp0, if_neg (by omega), if_pos ⟨by omega, k2⟩]
              obtain ⟨q1, q2, q3, q4, q5⟩ := iv_hal1 hf (by omega) hp (Or.inl rfl) haf
              obtain ⟨-, q6⟩ := kp_halt hf (by omega) hp (Or.inl rfl) haf
              have hz : fgt K p s 21 p ≠ nI 0 := by grind
              have hrS : Rel (pm_u (pm_u A1' 8 p 6 (nI 3)) 8 p 15 (nI 0)) c (pm_v (pm_v (pm_v (fgt K p s) 30 p (fgt K p s 21 p)) 21 p (nI 3)) 31 p (nI 0)) h := by
                rw [u_swap (by omega), v_swap (f := 21) (f' := 31) (by decide)]
                have ha1 : Rel A1' c (pm_v (fgt K p s) 30 p (fgt K p s 21 p)) h := rl_g hr1 (Or.inl rfl)
                have ha2 := rl_15 (v := nI 0) hp ha1
                refine rl_21 hp ha2 (fun _ => r_7 ha2 hp ?_) (fun e => absurd e (by decide)) (fun _ => by rw [u_eq, v_eq]) (fun h34 _ => (ha2.2.1 p hp).2.2.2.2.2 h34 ?_)
                · rw [v_f (by decide), v_f (by decide)]
                  exact hz
                · rw [v_f (by decide), v_f (by decide)]
                  have i7 := (hf.1.2.2.2.2.2.2.1 p hp).2.2.1
                  rw [v_f (by decide), v_f (by decide)] at h34
                  grind
              have e7 : pm_u (pm_u A1' 8 p 6 (nI 3)) 8 p 15 (nI 0) 8 p 7 = nI (pa (fgt K p s) p) := by
                rw [u_ne (by omega), u_ne (by omega), r_7 hr1 hp hz, q3]
              refine b34_97 hR hp (c25s hR hp q2 e7) (b34_112 hR q2 (Or.inr ⟨_, _, _, q2, hrS, ?_, iv_mono q1 (by omega), q5, ⟨s, h1, by omega, hd s h1 hs8 k, ha'⟩, rfl⟩))
              simp only [delN]
              rw [delN_no (fun j _ _ hj => ?_), e]
              · rfl
              · rw [e, q6] at hj
                grind
            · rw [bI_n0, r_8 hr1 hp] at k2
              have e : dst K p s = fgt K p s := by
                rw [hdef hq]
                unfold byDefF
                rw [if_neg hp0, if_neg (by omega), if_neg (by rw [k2]; simp)]
              exact nx A1' (by rw [e]; exact hr1) (by rw [e]; exact haf)
          refine b34_29 hR hp hE1 (t34_34 hR hp rfl hs8 (fun q => ?_) (fun q q2 _ => ?_) (fun q q2 q3 => absurd q2 q3) (fun q q2 q3 => absurd q2 q3) (fun q q2 _ q3 => absurd q3 q2) (fun q q2 q3 _ q4 => ?_) (fun q q2 q3 _ q4 => ?_) (fun q q2 q3 => ?_))
          · rw [e10] at q
            have e : dst K p s = hearF (fgt K p s) p (nI s) := by
              unfold dst
              rw [if_pos ⟨ha, k⟩, if_pos q]
            obtain ⟨m, hm, em⟩ := hf.1.2.2.2.2.2.2.2 p hp
            obtain ⟨A2', hr2, hE2⟩ := c120 (ns := ns) (d := d) (x := x) (Z := Z) (Y := Y) (o := o) (G := G) (g := g) (s := nI s) hR hr1 hp em (by omega)
            refine b34_44 hR hp hE2 (b34_49 hR hp (nx A2' (by rw [e]; exact hr2) ?_))
            rw [e]
            unfold hearF finF
            split
            · left
              rw [v_f (by decide), v_eq]
            · rw [v_f (by decide), v_f (by decide)]
              exact haf
          · rw [e10] at q
            rw [eno, hno] at q2
            exact z12 q (Or.inl q2)
          · rw [e10] at q
            rw [nI_ltI (by decide) (by omega)] at q4
            exact z12 q (Or.inr q4)
          · rw [e10] at q
            rw [eno, hno] at q2
            rw [nI_ltI (by decide) (by omega)] at q3 q4
            exact z86 q q2 q3 (by omega)
          · rw [e10] at q
            rw [eno, hno] at q2
            rw [nI_ltI (by decide) (by omega)] at q3
            have e : dst K p s = finishF (fgt K p s) p (nI (64 + s)) := by
              rw [hdef q]
              unfold byDefF
              rw [if_neg q2, if_pos (by omega)]
            obtain ⟨w1, w2, w3, w4, w5⟩ := iv_end (how := nI (64 + s)) hf (by omega) hp (Or.inl rfl) hAf
            obtain ⟨A2', hr2, hE2⟩ := c35 (ns := ns) (d := d) (x := x) (Z := Z) (Y := Y) (o := o) (G := G) (g := g) (w := nI (64 + s)) hR hr1 hf (by omega) hp (Or.inl rfl) hAf
            refine b34_64 hR hp (by rw [nI_add]; exact hE2) (b34_73 hR w2 (Or.inr ⟨A2', _, _, w2, hr2, ?_, iv_mono w1 (by omega), w5, ⟨s, h1, by omega, hd s h1 hs8 k, ha'⟩, rfl⟩))
            simp only [delN]
            rw [delN_no (fun j _ _ hj => ?_), e]
            · rfl
            · rw [e] at hj
              have : finishF (fgt K p s) p (nI (64 + s)) 21 p = (if fgt K p s 33 (8 * pa (fgt K p s) p + 7) = nI 1 then nI 0 else nI 4) := by
                unfold finishF
                rw [tell_f (by omega)]
                unfold endF
                rw [v_f (by decide), v_f (by decide), v_f (by decide), v_eq]
              rw [this] at hj
              split at hj <;> grind
    exact key 7 1 rfl (Nat.le_refl 1) t A H (by omega) hr hI (fun _ s h1 h2 => absurd h1 (by omega)) ha' (fun _ _ _ h => h)
end C2
