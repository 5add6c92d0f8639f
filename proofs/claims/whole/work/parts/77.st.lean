/-! @77.sg@ settling -/
theorem adm5 {G : Nat → Nat → Int32} {p s : Nat} (h6 : s ≠ 6) : ∀ f k, ¬ (f = 25 ∧ k = p) → admF G p s f k = G f k := by
  intro f k h
  have h1 : ad1 G p s f k = G f k := by
    unfold ad1
    rw [if_neg h6]
    split
    · exact v_ne h
    · rfl
  unfold admF
  split
  · rw [v_ne h, h1]
  · exact h1
/-- after a signal other than CONT has come, nothing else is due -/
theorem adm_due {t p s k : Nat} {G : Nat → Nat → Int32} (hI : Iv 8 t G) (hp : p < 8) (hs : s < 8) (h6 : s ≠ 6) (h1 : 1 ≤ k) (hk : k < 8) (hks : k ≠ s) (ha : G 21 p = nI 1 ∨ G 21 p = nI 2) : due (admF G p s) p k = false := by
  have h5 := hI.1.2.2.2.2.1 p hp (by omega) ha k h1 hk
  rw [due_iff hk] at h5 ⊢
  rw [adm5 h6 24 p (by omega)]
  have e1 : bt (ad1 G p s 25 p) k = true → bt (G 25 p) k = true := by
    unfold ad1
    rw [if_neg h6]
    split
    · rw [v_eq, bt_and]
      grind
    · exact id
  have e2 : bt (admF G p s 25 p) k = bt (ad1 G p s 25 p) k := by
    unfold admF
    split
    · rw [v_eq, bt_or, bt_bit hs]
      simp [Ne.symm hks]
    · rfl
  rw [e2]
  grind
theorem com_one {t p s : Nat} {G : Nat → Nat → Int32} (hI : Iv 8 t G) (hp : p < 8) (h1 : 1 ≤ s) (hs : s < 8) (h6 : s ≠ 6) (ha : G 21 p = nI 1 ∨ G 21 p = nI 2) : comF G p s = dst (admF G p s) p s := by
  have hA : A1 G p := by unfold A1; grind
  unfold comF
  rw [if_pos ((lv_A (hI.1.1 p hp)).mpr hA), if_neg (by omega)]
  exact del_one (iv_adm (iv_ex hI) hp hs hA).1 hp h1 hs (fun k hk1 hk hks => adm_due hI hp hs h6 hk1 hk hks ha)
theorem del_stop {G : Nat → Nat → Int32} {p : Nat} (h : ¬ (G 21 p = nI 1 ∨ G 21 p = nI 2)) : delF G p = G := delN_no (fun _ _ _ h' => absurd h' h)
theorem kp_adm {G : Nat → Nat → Int32} {p s : Nat} (h6 : s ≠ 6) : Kp G (admF G p s) := fun q hq => ⟨adm5 h6 _ _ (by omega), adm5 h6 _ _ (by omega), adm5 h6 _ _ (by omega), fun k hk => adm5 h6 _ _ (by omega), Or.inl (adm5 h6 _ _ (by omega))⟩
theorem kp_halt {e t p : Nat} {G : Nat → Nat → Int32} (hI : Iv e t G) (h1 : 1 ≤ p) (hp : p < 8) (he : e = p ∨ e = 8) (ha : G 21 p = nI 1 ∨ G 21 p = nI 2) : Kp G (haltF G p) ∧ haltF G p 21 p = nI 3 := by
  obtain ⟨-, hq, -, hqp, hqa⟩ := iv_hal1 hI h1 hp he ha
  constructor
  · refine Kp.tr ?_ (kp_tell hqa)
    intro q hq
    refine ⟨by grind [pm_v], by grind [pm_v], by grind [pm_v], fun s hs => by grind [pm_v], ?_⟩
    unfold A1
    grind [pm_v]
  · unfold haltF
    rw [tell_f (by grind), v_f (by decide), v_eq]
theorem kp_com5 {t p : Nat} {G : Nat → Nat → Int32} (hI : Iv 8 t G) (hp : p < 8) : Kp G (comF G p 5) := by
  by_cases hl : lv G p = true
  · have hA := (lv_A (hI.1.1 p hp)).mp hl
    have hka := kp_adm (G := G) (p := p) (s := 5) (by decide)
    have hia := (iv_adm (s := 5) (iv_ex hI) hp (by decide) hA).1
    by_cases ha : G 21 p = nI 1 ∨ G 21 p = nI 2
    · rw [com_one hI hp (by decide) (by decide) (by decide) ha]
      refine Kp.tr hka ?_
      have ha' : admF G p 5 21 p = nI 1 ∨ admF G p 5 21 p = nI 2 := by rw [adm5 (by decide) _ _ (by omega)]; exact ha
      have haf : fgt (admF G p 5) p 5 21 p = nI 1 ∨ fgt (admF G p 5) p 5 21 p = nI 2 := by unfold fgt; rw [v_f (by decide)]; exact ha'
      have hf : Kp (admF G p 5) (fgt (admF G p 5) p 5) := kp_v (by decide)
      have hif := iv_fgt (s := 5) hia hp (by decide)
      unfold dst
      split
      · split
        · exact Kp.tr hf (kp_hear (by unfold A1; grind))
        · split
          · unfold byDefF
            split
            · exact hf
            · rw [if_neg (by decide)]
              split
              · exact Kp.tr hf (kp_halt hif (by omega) hp (Or.inl rfl) haf).1
              · exact hf
          · exact hf
      · exact Kp.rf
    · unfold comF
      rw [if_pos hl, if_neg (by decide), del_stop (by rw [adm5 (by decide) _ _ (by omega)]; exact ha)]
      exact hka
  · unfold comF
    rw [if_neg hl]
    exact Kp.rf
theorem un_com5 {t p : Nat} {G : Nat → Nat → Int32} (hI : Iv 8 t G) (hp : p < 8) (h2 : G 21 p = nI 2) (hu : unask G p = false) : ¬ comF G p 5 21 p = nI 2 := by
  have nd := nd
  have hA : A1 G p := by unfold A1; grind
  have hia := (iv_adm (s := 5) (iv_ex hI) hp (by decide) hA).1
  simp only [unask, Bool.or_eq_false_iff, decide_eq_false_iff_not] at hu
  obtain ⟨hp0, h33, hm, ho⟩ := hu
  rw [com_one hI hp (by decide) (by decide) (by decide) (Or.inr h2)]
  have hst : stp G p 5 = true := by simp [stp, h33]
  have hdue : due (admF G p 5) p 5 = true := by
    rw [due_iff (by decide), adm5 (by decide) 24 p (by omega), hm]
    unfold admF
    rw [if_pos hst, v_eq, bt_or, bt_bit (by decide)]
    simp
  have ha' : admF G p 5 21 p = nI 2 := by rw [adm5 (by decide) _ _ (by omega)]; exact h2
  have haf : fgt (admF G p 5) p 5 21 p = nI 2 := by unfold fgt; rw [v_f (by decide)]; exact ha'
  have hif := iv_fgt (s := 5) hia hp (by decide)
  have e33 : admF G p 5 33 (8 * p + 5) = G 33 (8 * p + 5) := adm5 (by decide) _ _ (by omega)
  unfold dst
  rw [if_pos ⟨Or.inr ha', hdue⟩, e33]
  split
  · unfold hearF finF
    rw [if_pos haf, v_f (by decide), v_eq]
    grind
  · rename_i hc
    have h0 : G 33 (8 * p + 5) = 0 := by
      have := hI.1.2.2.2.1 p hp 5 (by decide)
      rw [nI_0] at this
      grind
    rw [if_pos h0]
    unfold byDefF
    have hko : orph (fgt (admF G p 5) p 5) (fgt (admF G p 5) p 5 23 p) = false := by
      have hk : Kp G (fgt (admF G p 5) p 5) := Kp.tr (kp_adm (by decide)) (kp_v (by decide))
      rw [(hk p hp).2.1, kp_orph hk hI.1.1 hI.1.2.2.1]
      exact ho
    rw [if_neg hp0, if_neg (by decide), if_pos ⟨by decide, hko⟩, (kp_halt hif (by omega) hp (Or.inl rfl) (Or.inr haf)).2]
    grind
theorem kp_unask {G G' : Nat → Nat → Int32} (h : Kp G G') (i1 : I1 G) (i3 : I3 G) {p : Nat} (hp : p < 8) : unask G' p = unask G p := by
  unfold unask
  obtain ⟨-, h23, h24, h33, -⟩ := h p hp
  rw [h33 5 (by decide), h24, h23, kp_orph h i1 i3]
theorem un_cp {p : Nat} {q : Int32} (hp : p < 8) : ∀ {n k t : Nat} {G : Nat → Nat → Int32}, Iv 8 t G → k + n = 8 → k ≤ p → G 23 p = q → unask G p = false → ¬ cpN G q 5 k n 21 p = nI 2
  | 0, k, t, G, hI, h8, hk, _, _ => by omega
  | n + 1, k, t, G, hI, h8, hkp, hq, hu => by
    simp only [cpN]
    by_cases hk : k = p
    · subst hk
      intro h
      by_cases h2 : G 21 k = nI 2
      · have hA : A1 G k := by unfold A1; grind
        have hl := (lv_A (hI.1.1 k hp)).mpr hA
        rw [if_pos ⟨hl, hq⟩] at h
        exact un_com5 hI hp h2 hu (nb_cpN (by decide) k hp h)
      · have := nb_cpN (by decide) k hp h
        split at this
        · exact h2 (nb_com (by decide) k hp this)
        · exact h2 this
    · have hI' : Iv 8 (t + 7) (if lv G k = true ∧ G 23 k = q then comF G k 5 else G) := by
        split
        · exact iv_com hI (by omega) (by decide)
        · exact iv_mono hI (by omega)
      have hK : Kp G (if lv G k = true ∧ G 23 k = q then comF G k 5 else G) := by
        split
        · exact kp_com5 hI (by omega)
        · exact Kp.rf
      exact un_cp hp hI' (by omega) (by omega) (by rw [(hK p hp).2.1]; exact hq) (by rw [kp_unask hK hI.1.1 hI.1.2.2.1 hp]; exact hu)
/-! the step of a settling -/
def can (G : Nat → Nat → Int32) (p : Nat) : Bool := decide (G 21 p = nI 2) && decide (0 < chF G p)
def pck (G : Nat → Nat → Int32) : Nat → Nat
  | 0 => 8
  | k + 1 => if can G k = true ∧ (pck G k = 8 ∨ ¬ G 39 (pck G k) ≤ G 39 k) then k else pck G k
def sel (G : Nat → Nat → Int32) : Nat := pck G 8
def ansF (G : Nat → Nat → Int32) (b : Int64) (p : Nat) : Nat → Nat → Int32 := if pfV G p = -nI 6 then comF (finF (pfF G b p) p (pfV G p)) p 2 else finF (pfF G b p) p (pfV G p)
def stepF (G : Nat → Nat → Int32) (g : Nat → Int64) : Nat → Nat → Int32 := if chF G (sel G) = 2 then cpF G (G 23 (sel G)) 5 else ansF G (g (sel G)) (sel G)
def stN (g : Nat → Int64) (G : Nat → Nat → Int32) : Nat → Nat → Nat → Int32
  | 0 => G
  | n + 1 => if sel G = 8 then G else stN g (stepF G g) n
def settleF (G : Nat → Nat → Int32) (g : Nat → Int64) : Nat → Nat → Int32 := stN g G 8
theorem pck_le (G : Nat → Nat → Int32) : ∀ {k : Nat}, k ≤ 8 → (pck G k = 8 ∨ (pck G k < k ∧ can G (pck G k) = true))
  | 0, _ => Or.inl rfl
  | k + 1, h => by
    simp only [pck]
    split
    · rename_i h1
      exact Or.inr ⟨by omega, h1.1⟩
    · rcases pck_le G (k := k) (by omega) with h1 | ⟨h1, h2⟩
      · exact Or.inl h1
      · exact Or.inr ⟨by omega, h2⟩
theorem sel_ok {G : Nat → Nat → Int32} (h : sel G ≠ 8) : sel G < 8 ∧ G 21 (sel G) = nI 2 ∧ 0 < chF G (sel G) := by
  rcases pck_le G (k := 8) (Nat.le_refl _) with h1 | ⟨h1, h2⟩
  · exact absurd h1 h
  · unfold can at h2
    simp at h2
    exact ⟨h1, h2.1, h2.2⟩
theorem chF_le {G : Nat → Nat → Int32} {p : Nat} : chF G p ≤ 2 := by
  unfold chF
  split
  · split
    · split
      · split <;> omega
      · split <;> omega
    · split <;> omega
  · split
    · split <;> omega
    · split
      · omega
      · split <;> omega
theorem chF_2 {G : Nat → Nat → Int32} {p : Nat} (h : chF G p = 2) : unask G p = false := by
  unfold chF at h
  split at h
  · split at h
    · split at h
      · split at h <;> omega
      · split at h
        · omega
        · rename_i hu
          simpa using hu
    · split at h <;> omega
  · split at h
    · split at h <;> omega
    · split at h
      · omega
      · split at h <;> omega
theorem iv_ans {t p : Nat} {G : Nat → Nat → Int32} {b : Int64} (hI : Iv 8 t G) (hp : p < 8) (h2 : G 21 p = nI 2) (h1 : chF G p = 1) : Iv 8 (t + 15) (ansF G b p) ∧ nb (ansF G b p) < nb G := by
  have nd := nd
  have i7 := hI.1.2.2.2.2.2.2.1 p hp
  have hw : G 34 p = nI 1 ∨ G 34 p = nI 2 ∨ G 34 p = nI 3 := by
    have h4 : ¬ G 34 p = nI 4 := by
      intro e
      rw [chF_W, e] at h1
      unfold chW at h1
      rw [if_neg (by decide), if_neg (by decide), if_pos rfl] at h1
      exact absurd h1 (by decide)
    grind
  have hc : Cl (pm_v G 34 p (G 34 p)) p := by rw [v_id rfl]; exact Cl_of hI hp
  have hP := iv_pf (b := b) hI hp hw hc (by rw [← chF_W]; exact h1)
  rw [← pfF_W] at hP
  -- states after the call is done
  have hst : Nb G (pfF G b p) ∧ pfF G b p 21 p = nI 2 := by
    have hk : ∀ (G' : Nat → Nat → Int32), (∀ k, G' 21 k = G 21 k) → Nb G G' ∧ G' 21 p = nI 2 := fun G' h => ⟨fun q _ h' => by rwa [h] at h', by rw [h]; exact h2⟩
    unfold pfF
    split
    · unfold rpF
      split
      · exact ⟨Nb.rf, h2⟩
      · split
        · rename_i h4
          obtain ⟨hft, h1k, hkk⟩ := chd_fit h4
          have hz : G 21 (chd G p 4) = nI 4 := by
            unfold fitc at hft
            simp at hft
            exact hft.1
          constructor
          · intro q hq h'
            grind [pm_v]
          · rw [v_k]
            · exact h2
            · intro e
              rw [← e] at hz
              grind
        · exact hk _ (fun k => v_f (by decide))
    · split
      · unfold gvF
        split
        · refine hk _ (fun k => ?_)
          have : ∀ n j (G' : Nat → Nat → Int32), gsN G' b j n 21 k = G' 21 k := by
            intro n
            induction n with
            | zero => intro j G'; rfl
            | succ n ih => intro j G'; simp only [gsN]; rw [ih, v_f (by decide), v_f (by decide)]
          exact this _ _ _
        · split
          · exact ⟨Nb.rf, h2⟩
          · refine hk _ (fun k => ?_)
            have : ∀ n j (G' : Nat → Nat → Int32), gpN G' (pix (fv G p)) b j n 21 k = G' 21 k := by
              intro n
              induction n with
              | zero => intro j G'; rfl
              | succ n ih => intro j G'; simp only [gpN]; rw [ih, v_f (by decide), v_f (by decide)]
            exact this _ _ _
      · split
        · split
          · refine hk _ (fun k => ?_)
            unfold tlF tl1
            split
            · rw [mv_f (by decide), v_f (by decide), v_f (by decide), v_f (by decide), mv_f (by decide), mv_f (by decide)]
            · rw [v_f (by decide), v_f (by decide), mv_f (by decide), mv_f (by decide)]
          · exact ⟨Nb.rf, h2⟩
        · refine hk _ (fun k => ?_)
          unfold tbF
          rw [v_f (by decide), v_f (by decide), mv_f (by decide), mv_f (by decide)]
  have hF := iv_fin (v := pfV G p) hP hp (Or.inr hst.2)
  have hnF : Nb G (finF (pfF G b p) p (pfV G p)) := by
    refine Nb.tr hst.1 (fun q hq h' => ?_)
    unfold finF at h'
    grind [pm_v]
  have hp1 : finF (pfF G b p) p (pfV G p) 21 p = nI 1 := by
    unfold finF
    rw [v_f (by decide), v_eq]
  unfold ansF
  split
  · refine ⟨iv_mono (iv_com hF hp (by decide)) (by omega), nb_lt (Nb.tr hnF (nb_com (by decide))) hp h2 (fun h' => ?_)⟩
    have := nb_com (by decide) p hp h'
    grind
  · refine ⟨iv_mono hF (by omega), nb_lt hnF hp h2 (by grind)⟩
theorem iv_step {t : Nat} {G : Nat → Nat → Int32} {g : Nat → Int64} (hI : Iv 8 t G) (hs : sel G ≠ 8) : Iv 8 (t + 56) (stepF G g) ∧ nb (stepF G g) < nb G := by
  obtain ⟨hp, h2, h0⟩ := sel_ok hs
  unfold stepF
  split
  · rename_i hc
    refine ⟨iv_cp hI (by decide), nb_lt (nb_cpN (by decide)) hp h2 ?_⟩
    exact un_cp hp hI rfl (by omega) rfl (chF_2 hc)
  · rename_i hc
    have := chF_le (G := G) (p := sel G)
    obtain ⟨h3, h4⟩ := iv_ans (b := g (sel G)) hI hp h2 (by omega)
    exact ⟨iv_mono h3 (by omega), h4⟩
theorem iv_stN {g : Nat → Int64} : ∀ {n t : Nat} {G : Nat → Nat → Int32}, Iv 8 t G → nb G ≤ n → Iv 8 (t + 56 * n) (stN g G n) ∧ sel (stN g G n) = 8
  | 0, t, G, hI, hn => by
    refine ⟨hI, ?_⟩
    by_cases hs : sel G = 8
    · exact hs
    · have := (iv_step (g := g) hI hs).2
      omega
  | n + 1, t, G, hI, hn => by
    simp only [stN]
    by_cases hs : sel G = 8
    · rw [if_pos hs]
      exact ⟨iv_mono hI (by omega), hs⟩
    · rw [if_neg hs]
      obtain ⟨h1, h2⟩ := iv_step (g := g) hI hs
      have := iv_stN (g := g) (n := n) h1 (by omega)
      rw [show t + 56 * (n + 1) = t + 56 + 56 * n from by omega]
      exact this
theorem iv_settle {t : Nat} {G : Nat → Nat → Int32} {g : Nat → Int64} (hI : Iv 8 t G) : Iv 8 (t + 448) (settleF G g) ∧ sel (settleF G g) = 8 := iv_stN hI (ct_le _ 8)
