/-! stores, arrays, new cells -/
section PMY
variable {p : Program} {l : Launch} {e : Env} {R : Room} {s : State} {m : MethodId} {args : Array Value} {below : List Frame} {meth : Method} {c : Code} {Q : State → Prop}
variable {g : pm_G} {M0 : pm_M} {r : pm_O × pm_M} {k : Nat → pm_L → List pm_V → pm_M → pm_R} {pc mi : Nat} {L : pm_L} {S : List pm_V} {M : pm_M}
theorem pm_tok0 {t : FieldType} (h : pm_tok 0 t = true) : t = .int := by simpa [pm_tok] using h
theorem pm_tok1 {t : FieldType} (h : pm_tok 1 t = true) : t = .long := by simpa [pm_tok] using h
theorem pm_tok3 {t : FieldType} (h : pm_tok 3 t = true) : t = .boolean := by simpa [pm_tok] using h
theorem pm_tok2 {t : FieldType} (h : pm_tok 2 t = true) : pm_isr t = true := by simpa [pm_tok] using h
theorem pm_bfit {x : Int32} (h : x = 0 ∨ x = 1) : fits .boolean (.int x) = true := by
  rcases h with rfl | rfl <;> rfl
/-- the memory with one int changed -/
theorem pm_en_i {f i j : Nat} {x : Int32} {f' i' : Nat} (h : ¬ (f' = f ∧ i' = i)) : pm_en g (pm_u M.1 f i j x, M.2) f' i' = pm_en g M f' i' := pm_en_eq (M' := (pm_u M.1 f i j x, M.2)) (pm_u_ne h) rfl rfl
theorem pm_en_l {f i j : Nat} {x : Int64} {f' i' : Nat} (h : ¬ (f' = f ∧ i' = i)) : pm_en g (M.1, pm_u M.2.1 f i j x, M.2.2) f' i' = pm_en g M f' i' := pm_en_eq (M' := (M.1, pm_u M.2.1 f i j x, M.2.2)) rfl (pm_u_ne h) rfl
theorem pm_en_r {f i j : Nat} {x : Option (Nat × Nat)} {f' i' : Nat} (h : ¬ (f' = f ∧ i' = i)) : pm_en g (M.1, M.2.1, pm_u M.2.2.1 f i j x, M.2.2.2) f' i' = pm_en g M f' i' := pm_en_eq (M' := (M.1, M.2.1, pm_u M.2.2.1 f i j x, M.2.2.2)) rfl rfl (pm_u_ne h)
theorem pm_u99 {F : Nat → Nat → Nat → Int32} {f i j : Nat} {x : Int32} (h : f ≠ 99) : pm_u F f i j x 99 0 = F 99 0 := pm_u_ne (fun q => h q.1.symm)
theorem pm_u_o {α : Type} {F : Nat → Nat → Nat → α} {f i k k' : Nat} {v : α} (h : k' ≠ k) : pm_u F f i k v f i k' = F f i k' := by
  rw [pm_u_at]; exact if_neg h
theorem pm_u_s {α : Type} {F : Nat → Nat → Nat → α} {f i k : Nat} {v : α} : pm_u F f i k v f i k = v := by
  rw [pm_u_at]; exact if_pos rfl
theorem pm_ev_i {f i j t j' : Nat} {x : Int32} (h : j' ≠ j) : pm_ev g (pm_u M.1 f i j x, M.2) f i t j' = pm_ev g M f i t j' := by
  unfold pm_ev
  split
  · rfl
  · rfl
  · show Value.int (pm_u M.1 f i j x f i j') = _
    rw [pm_u_o h]
theorem pm_ev_l {f i j t j' : Nat} {x : Int64} (h : j' ≠ j) : pm_ev g (M.1, pm_u M.2.1 f i j x, M.2.2) f i t j' = pm_ev g M f i t j' := by
  unfold pm_ev
  split
  · show Value.long (pm_u M.2.1 f i j x f i j') = _
    rw [pm_u_o h]
  · rfl
  · rfl
theorem pm_ev_r {f i j t j' : Nat} {x : Option (Nat × Nat)} (h : j' ≠ j) : pm_ev g (M.1, M.2.1, pm_u M.2.2.1 f i j x, M.2.2.2) f i t j' = pm_ev g M f i t j' := by
  unfold pm_ev
  split
  · rfl
  · show pm_cv g (pm_a (pm_u M.2.2.1 f i j x f i j')) = _
    rw [pm_u_o h]
  · rfl
theorem pm_s_putf (C : pm_Cx p l s m args meth c mi g) (hk : ∀ pc' L' S' M', k pc' L' S' M' = some r → pm_W p l e R s m args below meth c Q g M0 pc' L' S' M') {idx : Nat} {q : Nat × Nat × Nat × Bool} (hq : pm_fld (pm_own mi) idx = some q) (hd : decode (pm_code mi) pc = .ok (.putfield idx, 3))
    (h : (pm_vr M S fun v f i t => pm_pf g.2.2.1 (pm_ini mi && pm_own mi == q.1) M q v f i fun M' => k (pc + 3) L t M') = some r) : pm_W p l e R s m args below meth c Q g M0 pc L S M := by
  obtain ⟨v, f, i, t, hS0, hok, hN⟩ := pm_vr_inv h
  clear h
  subst hS0
  have h := hN
  obtain ⟨ci, fk, ty, fin⟩ := q
  unfold pm_pf at h
  split at h
  · rename_i cj tys hshp
    split at h
    · rename_i hc
      obtain ⟨hc, hfin⟩ := hc
      have hc : ci = cj := hc
      subst hc
      have h99 := (pm_shp_obj hshp).1
      intro hle ls H locs hL hlen hW hS
      dsimp only at h
      split at h
      · rename_i x
        exact pm_put_row (M := M) (M' := (pm_u M.1 f i fk x, M.2)) C hq hd hfin hshp (fun fty ht => by rw [pm_tok0 ht]; exact ⟨rfl, rfl⟩) rfl (pm_u99 h99) (fun _ _ h => pm_en_i h) (by show Value.int (pm_u M.1 f i fk x f i fk) = _; rw [pm_u_s]; rfl) (fun _ _ hj _ => pm_ev_i hj) hok hW hS fun H1 locs1 hW1 hS1 => hk _ _ _ _ h hle ls H1 locs1 hL hlen hW1 hS1
      · rename_i x
        obtain ⟨hx, h⟩ := pm_bo_inv h
        exact pm_put_row (M := M) (M' := (pm_u M.1 f i fk x, M.2)) C hq hd hfin hshp (fun fty ht => by rw [pm_tok3 ht]; exact ⟨pm_nar_b hx, pm_bfit hx⟩) rfl (pm_u99 h99) (fun _ _ h => pm_en_i h) (by show Value.int (pm_u M.1 f i fk x f i fk) = _; rw [pm_u_s]; rfl) (fun _ _ hj _ => pm_ev_i hj) hok hW hS fun H1 locs1 hW1 hS1 => hk _ _ _ _ h hle ls H1 locs1 hL hlen hW1 hS1
      · rename_i x
        exact pm_put_row (M := M) (M' := (M.1, pm_u M.2.1 f i fk x, M.2.2)) C hq hd hfin hshp (fun fty ht => by rw [pm_tok1 ht]; exact ⟨rfl, rfl⟩) rfl rfl (fun _ _ h => pm_en_l h) (by show Value.long (pm_u M.2.1 f i fk x f i fk) = _; rw [pm_u_s]; rfl) (fun _ _ hj _ => pm_ev_l hj) hok hW hS fun H1 locs1 hW1 hS1 => hk _ _ _ _ h hle ls H1 locs1 hL hlen hW1 hS1
      · rename_i x
        exact pm_put_row (M := M) (M' := (M.1, M.2.1, pm_u M.2.2.1 f i fk x, M.2.2.2)) C hq hd hfin hshp (fun fty ht => pm_fits (pm_tok2 ht) x) rfl rfl (fun _ _ h => pm_en_r h) (by show pm_cv g (pm_a (pm_u M.2.2.1 f i fk x f i fk)) = _; rw [pm_u_s]) (fun _ _ hj _ => pm_ev_r hj) hok hW hS fun H1 locs1 hW1 hS1 => hk _ _ _ _ h hle ls H1 locs1 hL hlen hW1 hS1
      · cases h
    · cases h
  · cases h
theorem pm_en_1 {f i n : Nat} {cs : List Nat} (h : pm_shp g.2.2.1 f = (1, n, cs)) : pm_en g M f i = .inl (g.2.2.2.2 0, n, .inl (M.1 f i)) := by
  unfold pm_en
  rw [h]
  rfl
theorem pm_en_2 {f i n : Nat} {cs : List Nat} (h : pm_shp g.2.2.1 f = (2, n, cs)) : pm_en g M f i = .inl (g.2.2.2.2 1, n, .inl (M.1 f i)) := by
  unfold pm_en
  rw [h]
  rfl
theorem pm_en_3 {f i n : Nat} {cs : List Nat} (h : pm_shp g.2.2.1 f = (3, n, cs)) : pm_en g M f i = .inl (g.2.2.2.2 2, n, .inr (.inl (M.2.1 f i))) := by
  unfold pm_en
  rw [h]
  rfl
theorem pm_en_4 {f i n : Nat} {cs : List Nat} (h : pm_shp g.2.2.1 f = (4, n, cs)) : pm_en g M f i = .inl (g.2.2.2.2 (3 + cs.headD 0), n, .inr (.inr (.inr (.inr (fun j => (M.2.2.1 f i j).map fun q => pm_ad g q.1 q.2))))) := by
  unfold pm_en
  rw [h]
  rfl
theorem pm_ar_inv {ns t f : Nat} {F : Nat → pm_R} (h : pm_ar ns t f F = some r) : ∃ n cs, pm_shp ns f = (t, n, cs) ∧ f ≠ 99 ∧ F n = some r := by
  unfold pm_ar at h
  split at h
  rename_i t' n cs hs
  split at h
  · rename_i hc
    exact ⟨n, cs, by rw [hs, hc.1], hc.2, h⟩
  · cases h
theorem pm_ari_inv {ns f : Nat} {F : Nat → pm_R} (h : pm_ari ns f F = some r) : ∃ n cs, pm_shp ns f = (1, n, cs) ∧ F n = some r := by
  unfold pm_ari at h
  split at h
  · exact ⟨_, _, by assumption, h⟩
  · cases h
theorem pm_99 (ns : Nat) : pm_shp ns 99 = (1, ns, []) := rfl
theorem pm_s_iald (C : pm_Cx p l s m args meth c mi g) (hk : ∀ pc' L' S' M', k pc' L' S' M' = some r → pm_W p l e R s m args below meth c Q g M0 pc' L' S' M') (hd : decode (pm_code mi) pc = .ok (.iaload, 1))
    (h : (pm_ir M S fun x f i t => pm_ari g.2.2.1 f fun n => pm_ix x n fun j => k (pc + 1) L (pm_i (M.1 f i j) :: t) M) = some r) : pm_W p l e R s m args below meth c Q g M0 pc L S M := by
  obtain ⟨hx, hb, -, -, -, -, -, -, -, -, hst⟩ := C
  obtain ⟨x, f, i, t, hS0, hok, hN⟩ := pm_ir_inv h
  clear h
  subst hS0
  obtain ⟨n, cs, hsh, h⟩ := pm_ari_inv hN
  obtain ⟨hin, hlt, hz⟩ := pm_ix_inv h
  intro hle ls H locs hL hlen hW hS
  by_cases h99 : f = 99
  · subst h99
    rw [pm_99] at hsh
    cases hsh
    have hi0 : i = 0 := by
      simp only [pm_ok, Bool.and_eq_true, decide_eq_true_eq] at hok
      have h9 : i < 1 := hok.1
      omega
    subst hi0
    obtain ⟨scr, h1, h2, h3, h4, h5⟩ := hW.2.2.2.2.2
    exact W.iald (v := .int (M.1 99 0 x.toNatClampNeg)) hx hb h1 h2 h3 (by rw [h4]; exact hin) (h5 _ hlt) rfl rfl hd (hk _ _ _ _ hz hle ls H locs hL hlen hW hS)
  · have hat := pm_P_at (g := g) hW.1 hok h99 hW.2.1
    rw [pm_en_1 hsh] at hat
    exact va_iald hx hb hst.1 (pm_one hat) 0 0 rfl rfl hin hd (hk _ _ _ _ hz hle ls H locs hL hlen hW hS)
theorem pm_s_bald (C : pm_Cx p l s m args meth c mi g) (hk : ∀ pc' L' S' M', k pc' L' S' M' = some r → pm_W p l e R s m args below meth c Q g M0 pc' L' S' M') (hd : decode (pm_code mi) pc = .ok (.baload, 1))
    (h : (pm_ir M S fun x f i t => pm_ar g.2.2.1 2 f fun n => pm_ix x n fun j => k (pc + 1) L (pm_i (M.1 f i j) :: t) M) = some r) : pm_W p l e R s m args below meth c Q g M0 pc L S M := by
  obtain ⟨hx, hb, -, -, -, -, -, -, -, -, hst⟩ := C
  obtain ⟨x, f, i, t, hS0, hok, hN⟩ := pm_ir_inv h
  clear h
  subst hS0
  obtain ⟨n, cs, hsh, h99, h⟩ := pm_ar_inv hN
  obtain ⟨hin, hlt, h⟩ := pm_ix_inv h
  intro hle ls H locs hL hlen hW hS
  have hat := pm_P_at (g := g) hW.1 hok h99 hW.2.1
  rw [pm_en_2 hsh] at hat
  exact va_zald hx hb hst.1 (pm_one hat) 0 1 rfl rfl hin hd (hk _ _ _ _ h hle ls H locs hL hlen hW hS)
theorem pm_s_lald (C : pm_Cx p l s m args meth c mi g) (hk : ∀ pc' L' S' M', k pc' L' S' M' = some r → pm_W p l e R s m args below meth c Q g M0 pc' L' S' M') (hd : decode (pm_code mi) pc = .ok (.laload, 1))
    (h : (pm_ir M S fun x f i t => pm_ar g.2.2.1 3 f fun n => pm_ix x n fun j => k (pc + 1) L (pm_l (M.2.1 f i j) :: t) M) = some r) : pm_W p l e R s m args below meth c Q g M0 pc L S M := by
  obtain ⟨hx, hb, -, -, -, -, -, -, -, -, hst⟩ := C
  obtain ⟨x, f, i, t, hS0, hok, hN⟩ := pm_ir_inv h
  clear h
  subst hS0
  obtain ⟨n, cs, hsh, h99, h⟩ := pm_ar_inv hN
  obtain ⟨hin, hlt, h⟩ := pm_ix_inv h
  intro hle ls H locs hL hlen hW hS
  have hat := pm_P_at (g := g) hW.1 hok h99 hW.2.1
  rw [pm_en_3 hsh] at hat
  exact va_lald hx hb hst.1 (pm_one hat) 0 2 rfl rfl hin hd (hk _ _ _ _ h hle ls H locs hL hlen hW hS)
theorem pm_rf_cv (q : Option (Nat × Nat)) : va_rf (q.map fun q => pm_ad g q.1 q.2) = pm_cv g (pm_a q) := by
  cases q <;> rfl
theorem pm_r4 : pm_fam.all (fun q => q.2.2.1 != 4 || decide (q.2.2.2.2 = [1]) || decide (q.2.2.2.2 = [3])) = true := by decide +kernel
theorem pm_shp4 {ns f n : Nat} {cs : List Nat} (h : pm_shp ns f = (4, n, cs)) : cs = [1] ∨ cs = [3] := by
  unfold pm_shp at h
  split at h
  · rename_i q hq
    have h2 := List.all_eq_true.mp pm_r4 _ (pm_fi_mem hq)
    rw [h] at h2
    simpa using h2
  · split at h <;> cases h
/-- the class of an array of references -/
theorem pm_ty4 {f n : Nat} {cs : List Nat} {ns : Nat} (h : pm_shp ns f = (4, n, cs)) : ∃ (t0 ck : Nat) (rc : vw_C), cs = [ck] ∧ pm_K[ck]? = some rc ∧ (pm_tys g)[t0]? = some (g.2.2.2.2 (3 + cs.headD 0), .object rc.1) := by
  rcases pm_shp4 h with rfl | rfl
  · exact ⟨3, 1, _, rfl, rfl, rfl⟩
  · exact ⟨4, 3, _, rfl, rfl, rfl⟩
theorem pm_s_aald (C : pm_Cx p l s m args meth c mi g) (hk : ∀ pc' L' S' M', k pc' L' S' M' = some r → pm_W p l e R s m args below meth c Q g M0 pc' L' S' M') (hd : decode (pm_code mi) pc = .ok (.aaload, 1))
    (h : (pm_ir M S fun x f i t => pm_ar g.2.2.1 4 f fun n => pm_ix x n fun j => k (pc + 1) L (pm_a (M.2.2.1 f i j) :: t) M) = some r) : pm_W p l e R s m args below meth c Q g M0 pc L S M := by
  obtain ⟨hx, hb, -, -, -, -, -, -, -, -, hst⟩ := C
  obtain ⟨x, f, i, t, hS0, hok, hN⟩ := pm_ir_inv h
  clear h
  subst hS0
  obtain ⟨n, cs, hsh, h99, h⟩ := pm_ar_inv hN
  obtain ⟨hin, hlt, h⟩ := pm_ix_inv h
  intro hle ls H locs hL hlen hW hS
  have hat := pm_P_at (g := g) hW.1 hok h99 hW.2.1
  rw [pm_en_4 hsh] at hat
  obtain ⟨t0, ck, rc, hcs, hrc, hty⟩ := pm_ty4 (g := g) hsh
  refine va_aldq (C := rc.1) hx hb hst.1 (pm_one hat) 0 t0 rfl hty hin hd ?_
  rw [pm_rf_cv]
  exact hk _ _ _ _ h hle ls H locs hL hlen hW hS
theorem pm_s_alen (C : pm_Cx p l s m args meth c mi g) (hk : ∀ pc' L' S' M', k pc' L' S' M' = some r → pm_W p l e R s m args below meth c Q g M0 pc' L' S' M') (hd : decode (pm_code mi) pc = .ok (.arraylength, 1))
    (h : (pm_r1 M S fun f _ t => pm_ari g.2.2.1 f fun n => k (pc + 1) L (pm_i (nI n) :: t) M) = some r) : pm_W p l e R s m args below meth c Q g M0 pc L S M := by
  obtain ⟨hx, hb, -, -, -, -, -, -, -, -, hst⟩ := C
  obtain ⟨f, i, t, hS0, hok, hN⟩ := pm_r1_inv h
  clear h
  subst hS0
  obtain ⟨n, cs, hsh, h⟩ := pm_ari_inv hN
  intro hle ls H locs hL hlen hW hS
  by_cases h99 : f = 99
  · subst h99
    rw [pm_99] at hsh
    cases hsh
    obtain ⟨scr, h1, h2, h3, h4, h5⟩ := hW.2.2.2.2.2
    exact W.alen (n := nI g.2.2.1) hx hb h1 h2 (by rw [h4] <;> rfl) rfl rfl hd (hk _ _ _ _ h hle ls H locs hL hlen hW hS)
  · have hat := pm_P_at (g := g) hW.1 hok h99 hW.2.1
    rw [pm_en_1 hsh] at hat
    exact va_alen hx hb hst.1 (pm_one hat) 0 0 rfl rfl rfl hd (hk _ _ _ _ h hle ls H locs hL hlen hW hS)
end PMY
