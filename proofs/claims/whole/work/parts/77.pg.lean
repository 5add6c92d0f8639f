/-! @77.pf@ a call done, whatever call it is called -/
def pfW (w : Int32) (G : Nat → Nat → Int32) (b : Int64) (p : Nat) : Nat → Nat → Int32 := if w = nI 3 then rpF G p else if w = nI 2 then gvF G b p else if fv G p = nI 1 then (if G 23 p = G 20 25 then tlF G p else G) else tbF G p (pix (fv G p))
def pvW (w : Int32) (G : Nat → Nat → Int32) (p : Nat) : Int32 := if w = nI 3 then rpV G p else if w = nI 2 then gvV G p else if fv G p = nI 1 then (if G 23 p = G 20 25 then nI (tlN G p) else -nI 5) else nI (tbN G p (pix (fv G p)))
def chW (w : Int32) (G : Nat → Nat → Int32) (p : Nat) : Nat :=
  if w = nI 1 then (if fv G p = nI 1 then (if G 23 p = G 20 25 then (if G 20 26 ≤ 0 then 0 else 1) else if unask G p = true then 1 else 2) else if 0 < G 43 (pix (fv G p)) ∨ opn G (fv G p + nI 1) = false then 1 else 0)
  else if w = nI 2 then (if fv G p = nI 1 ∨ opn G (fv G p - nI 1) = false ∨ ¬ nI 12 < G 43 (pix (fv G p)) + G 36 p then 1 else 0)
  else if w = nI 4 then 0 else if chd G p 0 = 8 ∨ chd G p 4 ≠ 8 ∨ (¬ G 38 p = 0 ∧ chd G p 3 ≠ 8) then 1 else 0
theorem pfF_W (G : Nat → Nat → Int32) (b : Int64) (p : Nat) : pfF G b p = pfW (G 34 p) G b p := rfl
theorem pfV_W (G : Nat → Nat → Int32) (p : Nat) : pfV G p = pvW (G 34 p) G p := rfl
theorem chF_W (G : Nat → Nat → Int32) (p : Nat) : chF G p = chW (G 34 p) G p := rfl
theorem v_swap {G : Nat → Nat → Int32} {f k f' k' : Nat} {v v' : Int32} (h : f ≠ f') : pm_v (pm_v G f k v) f' k' v' = pm_v (pm_v G f' k' v') f k v := by
  funext a b
  unfold pm_v
  grind
theorem v_v {G : Nat → Nat → Int32} {f k : Nat} {v v' : Int32} : pm_v (pm_v G f k v) f k v' = pm_v G f k v' := by
  funext a b
  unfold pm_v
  grind
theorem v_id {G : Nat → Nat → Int32} {f k : Nat} {v : Int32} (h : G f k = v) : pm_v G f k v = G := by
  funext a b
  unfold pm_v
  grind
theorem mv_34 {f a f2 b q : Nat} {v : Int32} (h1 : f ≠ 34) (h2 : f2 ≠ 34) : ∀ {n k : Nat} {G : Nat → Nat → Int32}, mv f a f2 b (pm_v G 34 q v) k n = pm_v (mv f a f2 b G k n) 34 q v
  | 0, k, G => rfl
  | n + 1, k, G => by
    simp only [mv]
    rw [v_f h2, v_swap (fun e => h1 e.symm), mv_34 h1 h2]
theorem gs_34 {b : Int64} {q : Nat} {v : Int32} : ∀ {n k : Nat} {G : Nat → Nat → Int32}, gsN (pm_v G 34 q v) b k n = pm_v (gsN G b k n) 34 q v
  | 0, k, G => rfl
  | n + 1, k, G => by
    simp only [gsN]
    rw [v_f (show (20 : Nat) ≠ 34 by decide), v_swap (show (34 : Nat) ≠ 46 by decide), v_swap (show (34 : Nat) ≠ 20 by decide), gs_34]
theorem gp_34 {b : Int64} {j q : Nat} {v : Int32} : ∀ {n k : Nat} {G : Nat → Nat → Int32}, gpN (pm_v G 34 q v) j b k n = pm_v (gpN G j b k n) 34 q v
  | 0, k, G => rfl
  | n + 1, k, G => by
    simp only [gpN]
    rw [v_f (show (43 : Nat) ≠ 34 by decide), v_swap (show (34 : Nat) ≠ 42 by decide), v_swap (show (34 : Nat) ≠ 43 by decide), gp_34]
theorem tl1_34 {G : Nat → Nat → Int32} {p q : Nat} {v : Int32} : tl1 (pm_v G 34 q v) p = pm_v (tl1 G p) 34 q v := by
  unfold tl1
  rw [show tlN (pm_v G 34 q v) p = tlN G p from rfl, show pm_v G 34 q v 45 0 = G 45 0 from rfl, mv_34 (by decide) (by decide), mv_34 (by decide) (by decide), v_swap (show (34 : Nat) ≠ 45 by decide), v_swap (show (34 : Nat) ≠ 27 by decide)]
theorem tl_34 {G : Nat → Nat → Int32} {p q : Nat} {v : Int32} : tlF (pm_v G 34 q v) p = pm_v (tlF G p) 34 q v := by
  unfold tlF
  rw [show tlN (pm_v G 34 q v) p = tlN G p from rfl, show pm_v G 34 q v 45 0 = G 45 0 from rfl, show pm_v G 34 q v 20 26 = G 20 26 from rfl, tl1_34]
  split
  · rw [v_swap (show (34 : Nat) ≠ 20 by decide), mv_34 (by decide) (by decide)]
  · rfl
theorem tb_34 {G : Nat → Nat → Int32} {p q j : Nat} {v : Int32} : tbF (pm_v G 34 q v) p j = pm_v (tbF G p j) 34 q v := by
  unfold tbF
  rw [show tbN (pm_v G 34 q v) p j = tbN G p j from rfl, show pm_v G 34 q v 43 j = G 43 j from rfl, mv_34 (by decide) (by decide), mv_34 (by decide) (by decide), v_swap (show (34 : Nat) ≠ 43 by decide), v_swap (show (34 : Nat) ≠ 27 by decide)]
theorem rp_34 {G : Nat → Nat → Int32} {p q : Nat} {v : Int32} : rpF (pm_v G 34 q v) p = pm_v (rpF G p) 34 q v := by
  unfold rpF
  rw [show chd (pm_v G 34 q v) p 0 = chd G p 0 from rfl, show chd (pm_v G 34 q v) p 4 = chd G p 4 from rfl, show chd (pm_v G 34 q v) p 3 = chd G p 3 from rfl]
  split
  · rfl
  · split
    · exact v_swap (by decide)
    · exact v_swap (by decide)
theorem gv_34 {G : Nat → Nat → Int32} {b : Int64} {p q : Nat} {v : Int32} : gvF (pm_v G 34 q v) b p = pm_v (gvF G b p) 34 q v := by
  unfold gvF
  rw [show fv (pm_v G 34 q v) p = fv G p from rfl, show opn (pm_v G 34 q v) (fv G p - nI 1) = opn G (fv G p - nI 1) from rfl, show cmN (pm_v G 34 q v) p = cmN G p from rfl]
  split
  · exact gs_34
  · split
    · rfl
    · exact gp_34
theorem pf_34 {G : Nat → Nat → Int32} {w : Int32} {b : Int64} {p q : Nat} {v : Int32} : pfW w (pm_v G 34 q v) b p = pm_v (pfW w G b p) 34 q v := by
  unfold pfW
  rw [show fv (pm_v G 34 q v) p = fv G p from rfl, show pm_v G 34 q v 23 p = G 23 p from rfl, show pm_v G 34 q v 20 25 = G 20 25 from rfl]
  split
  · exact rp_34
  · split
    · exact gv_34
    · split
      · split
        · exact tl_34
        · rfl
      · exact tb_34
theorem pv_34 {G : Nat → Nat → Int32} {w : Int32} {p q : Nat} {v : Int32} : pvW w (pm_v G 34 q v) p = pvW w G p := rfl
theorem ch_34 {G : Nat → Nat → Int32} {w : Int32} {p q : Nat} {v : Int32} : chW w (pm_v G 34 q v) p = chW w G p := rfl
theorem chd_fit {G : Nat → Nat → Int32} {p w : Nat} (h : chd G p w ≠ 8) : fitc G p w (chd G p w) = true ∧ 1 ≤ chd G p w ∧ chd G p w < 8 := by
  have l := chd_le (G := G) (p := p) (w := w)
  exact ⟨fst_yes (show fst (fitc G p w) 1 7 < 1 + 7 by unfold chd at l h; omega), l.1, by omega⟩
theorem iv_z {t k : Nat} {G : Nat → Nat → Int32} (hI : Iv 8 t G) (h1 : 1 ≤ k) (hk : k < 8) (hz : G 21 k = nI 4) : Iv 8 t (pm_v G 21 k (nI 0)) := by
  obtain ⟨⟨i1, i2, i3, i4, i5, i6, i7, i12⟩, ig⟩ := hI
  have nd := nd
  have i7k := i7 k hk
  refine ⟨⟨?_, ?_, ?_, ?_, ?_, ?_, ?_, ?_⟩, ig_frame ig ?_ ?_ ?_ ?_ ?_ ?_ ?_ ?_⟩
  · unfold I1 at *; intro q hq; have := i1 q hq; grind [pm_v]
  · unfold I2 at *; grind [pm_v]
  · intro q h1 hq h0
    obtain ⟨r, hr, e1, e2, e3⟩ := i3 q h1 hq (by grind [pm_v])
    exact ⟨r, hr, by grind [pm_v], e2, by unfold A1 at *; grind [pm_v]⟩
  · unfold I4 at *; intro q hq s hs; have := i4 q hq s hs; grind [pm_v]
  · unfold I5 due at *; intro q hq he h s; have := i5 q hq; grind [pm_v]
  · unfold I6 at *; intro q hq s; have := i6 q hq s; grind [pm_v]
  · intro q hq
    have i7q := i7 q hq
    by_cases hqk : q = k
    · subst hqk
      rw [v_eq, v_f (by decide), v_f (by decide)]
      clear i7 i1 i2 i3 i4 i5 i6
      grind
    · rw [v_k hqk, v_f (by decide), v_f (by decide)]
      exact i7q
  · intro q hq
    obtain ⟨h, h1, h2⟩ := i12 q hq
    exact ⟨h, h1, by grind [pm_v]⟩
  all_goals intros; grind [pm_v]
theorem iv_31 {t k : Nat} {G : Nat → Nat → Int32} {v : Int32} (hI : Iv 8 t G) : Iv 8 t (pm_v G 31 k v) := by
  obtain ⟨iS, iG⟩ := hI
  exact ⟨is_frame (fun f hf j => v_f (by omega)) iS, ig_frame iG (fun j => v_f (by decide)) (fun j => v_f (by decide)) (fun j => v_f (by decide)) (fun j => v_f (by decide)) (fun j => v_f (by decide)) (fun j => v_f (by decide)) (fun p hp => Or.inr ⟨v_f (by decide), fun f hf => v_f (by decide)⟩) (fun j hj => Or.inl (v_f (by decide)))⟩
theorem iv_pf {t p : Nat} {G : Nat → Nat → Int32} {w : Int32} {b : Int64} (hI : Iv 8 t G) (hp : p < 8) (hw : w = nI 1 ∨ w = nI 2 ∨ w = nI 3) (hc : Cl (pm_v G 34 p w) p) (h1 : chW w G p = 1) : Iv 8 (t + 8) (pfW w G b p) := by
  have nd := nd
  obtain ⟨f, hf, e35, ⟨n, hn, e36, hn1⟩, hrd, hwr⟩ := hc
  rw [v_f (by decide)] at e35 e36
  rw [v_eq, v_f (by decide)] at hrd hwr
  have ecf : cfi G p = f := by rw [cfi, e35, nI_clamp (by omega)]
  have efv : fv G p = G 32 (6 * p + f) := by rw [fv, ecf]
  rw [← efv] at hrd hwr
  unfold pfW
  rcases hw with rfl | rfl | rfl
  · rw [if_neg (by decide), if_neg (by decide)]
    by_cases hf1 : fv G p = nI 1
    · rw [if_pos hf1]
      by_cases hg : G 23 p = G 20 25
      · rw [if_pos hg]
        refine iv_mono (iv_tl hI hp ?_) (by omega)
        intro h0
        simp only [chW, if_pos hf1, if_pos hg, if_pos h0, if_true] at h1
        exact absurd h1 (by decide)
      · rw [if_neg hg]
        exact iv_mono hI (by omega)
    · rw [if_neg hf1]
      obtain ⟨j, hj, ej⟩ := (hrd rfl).resolve_left hf1
      rw [ej, (pix_ix (v := 2 + 2 * j) hj (Or.inl rfl)).2]
      exact iv_mono (iv_tb hI hp hj) (by omega)
  · rw [if_neg (by decide), if_pos rfl]
    unfold gvF
    by_cases hf1 : fv G p = nI 1
    · rw [if_pos hf1]
      have ecm : cmN G p = n := by rw [cmN, e36, nI_clamp (by omega)]
      rw [ecm]
      exact iv_mono (iv_gs hI) (by omega)
    · rw [if_neg hf1]
      obtain ⟨j, hj, ej⟩ := (hwr rfl).resolve_left hf1
      have epx : pix (fv G p) = j := by rw [ej]; exact (pix_ix (v := 3 + 2 * j) hj (Or.inr rfl)).2
      split
      · exact iv_mono hI (by omega)
      · rename_i ho
        obtain ⟨m, hm, e43⟩ := hI.2.2.2.1 j hj
        have ecm : cmN G p = n := by rw [cmN, e36, nI_clamp (by omega)]
        rw [epx, ecm]
        refine iv_mono (iv_gp hj hI e43 ?_) (by omega)
        simp only [chW, if_neg (show ¬ nI 2 = nI 1 by decide), if_true] at h1
        split at h1
        · rename_i h2
          rcases h2 with h2 | h2 | h2
          · exact absurd h2 hf1
          · exact absurd h2 ho
          · rw [epx, e43, e36, nI_add, nI_ltI (by decide) (by omega)] at h2
            omega
        · cases h1
  · rw [if_pos rfl]
    unfold rpF
    split
    · exact iv_mono hI (by omega)
    · split
      · rename_i h4
        obtain ⟨hft, h1k, hk⟩ := chd_fit h4
        have hz : G 21 (chd G p 4) = nI 4 := by
          unfold fitc at hft
          simp at hft
          exact hft.1
        exact iv_mono (iv_z hI h1k hk hz) (by omega)
      · exact iv_mono (iv_31 hI) (by omega)
