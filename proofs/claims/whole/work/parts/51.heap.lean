/-! the instructions that read and write the heap -/
theorem pm_fits {g : pm_G} {ty : FieldType} (h : pm_isr ty = true) (q : Option (Nat × Nat)) : narrow ty (pm_cv g (pm_a q)) = pm_cv g (pm_a q) ∧ fits ty (pm_cv g (pm_a q)) = true := by
  cases ty <;> simp [pm_isr] at h <;> cases q <;> exact ⟨rfl, rfl⟩
theorem pm_nar_b {x : Int32} (h : x = 0 ∨ x = 1) : narrow .boolean (.int x) = .int x := by
  rcases h with rfl | rfl <;> rfl
section PMX
variable {p : Program} {l : Launch} {e : Env} {R : Room} {s : State} {m : MethodId} {args : Array Value} {below : List Frame} {meth : Method} {c : Code} {Q : State → Prop}
variable {g : pm_G} {M0 : pm_M} {r : pm_O × pm_M} {k : Nat → pm_L → List pm_V → pm_M → pm_R} {pc mi : Nat} {L : pm_L} {S : List pm_V} {M : pm_M}
theorem pm_one {D : va_G} {cl : List vw_C} {q : Nat × va_E} {H : Heap} (h : va_at D cl q H) : va_P D cl [q] H := fun k q' hk => by
  have : k = 0 := by
    rcases k with _ | k
    · rfl
    · simp at hk
  subst this
  cases hk
  exact h
theorem pm_fs_get {f i : Nat} {tys : List Nat} {j t : Nat} (h : tys[j]? = some t) : (pm_fs g M f i tys)[j]? = some (pm_ev g M f i t j) := by
  unfold pm_fs
  rw [List.getElem?_mapIdx, h]
  rfl
theorem pm_en_obj {f i ci : Nat} {tys : List Nat} (h : pm_shp g.2.2.1 f = (0, ci, tys)) : pm_en g M f i = .inr (ci, pm_fs g M f i tys) := by
  unfold pm_en
  rw [h]
  rfl
theorem pm_s_getf (C : pm_Cx p l s m args meth c mi g) (hk : ∀ pc' L' S' M', k pc' L' S' M' = some r → pm_W p l e R s m args below meth c Q g M0 pc' L' S' M') {idx : Nat} {q : Nat × Nat × Nat × Bool} (hq : pm_fld (pm_own mi) idx = some q) (hd : decode (pm_code mi) pc = .ok (.getfield idx, 3))
    (h : (pm_r1 M S fun f i t => pm_gf g.2.2.1 M q f i fun v => k (pc + 3) L (v :: t) M) = some r) : pm_W p l e R s m args below meth c Q g M0 pc L S M := by
  obtain ⟨hx, hb, -, -, hown, hts, -, -, -, -, hst⟩ := C
  obtain ⟨f, i, t, hS0, hok, hN⟩ := pm_r1_inv h
  clear h
  subst hS0
  have h := hN
  obtain ⟨ci, fk, ty, fin⟩ := q
  obtain ⟨Cn, T, N, hKc, hkN, hty, -, hlink⟩ := pm_fld_ok hq
  unfold pm_gf at h
  split at h
  · rename_i cj tys hshp
    split at h
    · rename_i hc
      have hc : ci = cj := hc
      subst hc
      obtain ⟨h99, htys⟩ := pm_shp_obj hshp
      subst htys
      intro hle ls H locs hL hlen hW hS
      have hat := pm_P_at (g := g) hW.1 hok h99 hW.2.1
      rw [pm_en_obj hshp] at hat
      have hin := (pm_cl_ok hKc).1
      refine va_get (D := g.2.2.2.1) (ci := ci) (v := pm_ev g M f i ty fk) (C := Cn) (T := T) (N := N) hx hb hts hin hown hst.1 (pm_one hat) 0 rfl hKc fk hkN (hts _ hlink) (fun _ h9 => h9) (pm_fs_get hty) hd ?_
      dsimp only at h
      split at h
      · exact hk _ _ _ _ h hle ls H locs hL hlen hW hS
      · exact hk _ _ _ _ h hle ls H locs hL hlen hW hS
      · rename_i n1 n2
        have hev : pm_ev g M f i ty fk = .int (M.1 f i fk) := by
          unfold pm_ev
          split
          · exact absurd rfl n1
          · exact absurd rfl n2
          · rfl
        rw [hev]
        exact hk _ _ _ _ h hle ls H locs hL hlen hW hS
    · cases h
  · cases h
/-- a field's new value in its cell -/
theorem pm_at_put {ci : Nat} {Cn : String} {T : u_T} {N : Nat} {a : Nat} {H H1 : Heap} {fs : List Value} {fk : Nat} {v : Value} {cell : Cell} {sl : Nat} {D : va_G} (hKc : pm_K[ci]? = some (Cn, T, N)) (q1 : H[a]? = some cell) (q2 : cell.cls = D.1 ci) (q3 : cell.vm = .none)
    (q4 : ∀ k, k < N → cell.slots[D.2 ci k]? = some (vp_V fs k)) (hap : ∀ a b, a < N → b < N → a ≠ b → D.2 ci a ≠ D.2 ci b) (hk : fk < N) (hl : fk < fs.length) (hsl : sl = D.2 ci fk) (e1 : H1[a]? = some (cell.setSlot sl v)) : va_at D pm_K (a, .inr (ci, fs.set fk v)) H1 := by
  subst hsl
  exact ⟨_, hKc, t_OB.to (V := updV (vp_V fs) fk v) ⟨_, e1, q2, q3, t_set q4 hap hk v⟩ (fun j _ => vp_updV_set hl v j)⟩
theorem pm_fs_set {M' : pm_M} {f i : Nat} {tys : List Nat} {j t : Nat} (h : tys[j]? = some t) {v : Value} (hv : pm_ev g M' f i t j = v) (ho : ∀ j' t', j' ≠ j → tys[j']? = some t' → pm_ev g M' f i t' j' = pm_ev g M f i t' j') : pm_fs g M' f i tys = (pm_fs g M f i tys).set j v := by
  have hj : j < tys.length := (List.getElem?_eq_some_iff.mp h).1
  apply List.ext_getElem?
  intro n
  by_cases hn : n = j
  · subst hn
    rw [pm_fs_get h, List.getElem?_set_self (by unfold pm_fs; rw [List.length_mapIdx]; exact hj), hv]
  · rw [List.getElem?_set_ne (Ne.symm hn)]
    cases ht : tys[n]? with
    | none =>
      unfold pm_fs
      rw [List.getElem?_mapIdx, List.getElem?_mapIdx, ht]; rfl
    | some t' => rw [pm_fs_get ht, pm_fs_get ht, ho n t' hn ht]
theorem pm_put_row (C : pm_Cx p l s m args meth c mi g) {idx ci fk ty f i : Nat} {fin : Bool} (hq : pm_fld (pm_own mi) idx = some (ci, fk, ty, fin)) (hd : decode (pm_code mi) pc = .ok (.putfield idx, 3)) (hfin : fin = true → (pm_ini mi && pm_own mi == ci) = true) {tys : List Nat} (hshp : pm_shp g.2.2.1 f = (0, ci, tys)) {v : Value} {M' : pm_M}
    (hv : ∀ fty, pm_tok ty fty = true → narrow fty v = v ∧ fits fty v = true) (hn : M'.2.2.2 = M.2.2.2) (h99 : M'.1 99 0 = M.1 99 0) (hen : ∀ f' i', ¬ (f' = f ∧ i' = i) → pm_en g M' f' i' = pm_en g M f' i')
    (hv' : pm_ev g M' f i ty fk = v) (ho : ∀ j' t', j' ≠ fk → tys[j']? = some t' → pm_ev g M' f i t' j' = pm_ev g M f i t' j') (hok : pm_ok M f i = true)
    {ls : Array Slot} {H : Heap} {locs : List Loc} {cells slots : Nat} {rest : List Value} (hW : pm_Wd g M s H) (hS : va_S (pm_A g) s.heap H locs)
    (kk : ∀ (H1 : Heap) (locs1 : List Loc), pm_Wd g M' s H1 → va_S (pm_A g) s.heap H1 locs1 → W p l e R s m args below meth c H1 locs1 cells slots Q (F0 m (pc + 3) ls rest)) :
    W p l e R s m args below meth c H locs cells slots Q (F0 m pc ls (v :: .ref (pm_ad g f i) :: rest)) := by
  obtain ⟨hx, hb, -, -, hown, hts, -, hini, -, -, hst⟩ := C
  obtain ⟨Cn, T, N, hKc, hkN, hty, hfi, hlink⟩ := pm_fld_ok hq
  obtain ⟨hin, hkt, hnm, hlenN, hCn, hTk, -, -⟩ := pm_cl_ok hKc
  have hpd := hkt fk hkN
  have htok : pm_tok ty (pm_kt ci fk) = true := by
    have h9 := (hTk fk hkN).2
    rw [List.getD_eq_getElem?_getD, hty] at h9
    exact h9
  obtain ⟨hf99, htys⟩ := pm_shp_obj hshp
  subst htys
  have hat := pm_P_at (g := g) hW.1 hok hf99 hW.2.1
  rw [pm_en_obj hshp] at hat
  obtain ⟨r', hr', cell, q1, q2, q3, q4⟩ := hat
  have hr9 : r' = (Cn, T, N) := Option.some.inj (hr'.symm.trans hKc)
  subst hr9
  obtain ⟨hSl, hfc, kC, hkC, hkind⟩ := hst.1.1 ci _ hKc
  obtain ⟨cf, kf, fi, fd, hi, hsl⟩ := hSl fk hkN
  have hap := va_apart (own := pm_nm (pm_own mi)) hts hin (pm_kt ci) hkt hnm hst.1 hKc
  have hlay := hts _ (hin _ (u_in_lay hkN))
  have hfl : fk < (pm_fs g M f i (pm_cty ci)).length := by unfold pm_fs; rw [List.length_mapIdx, hlenN]; exact hkN
  obtain ⟨hnar, hfit⟩ := hv _ htok
  have fin1 : ∀ H1 : Heap, H1[pm_ad g f i]? = some (cell.setSlot fd.slot v) → H1.size = H.size → (∀ q, q ≠ pm_ad g f i → H1[q]? = H[q]?) → W p l e R s m args below meth c H1 (locs ++ [⟨pm_ad g f i, fd.slot⟩]) cells slots Q (F0 m (pc + 3) ls rest) := fun H1 e1 e2 e3 => by
    refine kk H1 _ (pm_Wd_upd hW hst.2.1 hn h99 hok hf99 ?_ e2 e3 hen) (pm_S_put hS hok hf99 hW.2.1 e2 e3)
    rw [pm_en_obj hshp, pm_fs_set (M := M) hty hv' ho]
    exact pm_at_put hKc q1 q2 q3 q4 hap hkN hfl hsl e1
  cases fin with
  | false =>
    unfold u_lay at hlay
    rw [if_neg (by rw [hfi]; decide)] at hlay
    have hstt := (u_facts hfc hkC (u_lays hts hin hkN) hi).1
    have h6 := u_store hfc hkC hkind hlay hi hpd hnar hfit
    exact W.putK hx hb (f := fd) ⟨hown, hts _ hlink, ⟨_, _, _, hi⟩, hstt⟩ (by rw [q2]; exact h6) q1 q3 (by rw [hsl]; exact k2_hasslot (q4 fk hkN)) rfl rfl hd fin1
  | true =>
    unfold u_lay at hlay
    rw [if_pos hfi] at hlay
    have hstt := (u_facts hfc hkC (u_lays hts hin hkN) hi).1
    have h6 := u_fits hfc hkC hkind (Or.inr hlay) hi hpd hnar hfit
    have hf9 := hfin rfl
    rw [Bool.and_eq_true, beq_iff_eq] at hf9
    refine W.putFinK hx hb hown (hts _ hlink) hi hstt ?_ (hini hf9.1) (by rw [q2]; exact h6) q1 q3 (by rw [hsl]; exact k2_hasslot (q4 fk hkN)) rfl rfl hd fin1
    rw [hf9.2, ← hCn] at hown
    rw [(hTk fk hkN).1] at hlay hi
    exact laid_decl hown hlay hi
end PMX
