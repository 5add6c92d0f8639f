/-! array stores, new cells -/
section PMZ
variable {p : Program} {l : Launch} {e : Env} {R : Room} {s : State} {m : MethodId} {args : Array Value} {below : List Frame} {meth : Method} {c : Code} {Q : State → Prop}
variable {g : pm_G} {M0 : pm_M} {r : pm_O × pm_M} {k : Nat → pm_L → List pm_V → pm_M → pm_R} {pc mi : Nat} {L : pm_L} {S : List pm_V} {M : pm_M}
theorem pm_arr_upd {cA : ClassId} {n j : Nat} {F : Nat → Value} {v : Value} {F' : Nat → Value} (h1 : F' j = v) (h2 : ∀ q, q ≠ j → F' q = F q) : (arrV cA n F).setSlot j v = arrV cA n F' := by
  rw [arrV_store]
  congr 1
  funext q
  by_cases hq : q = j
  · subst hq
    rw [h1]; simp [updV]
  · rw [h2 q hq]; simp [updV, hq]
theorem pm_s_iast (C : pm_Cx p l s m args meth c mi g) (hk : ∀ pc' L' S' M', k pc' L' S' M' = some r → pm_W p l e R s m args below meth c Q g M0 pc' L' S' M') (hd : decode (pm_code mi) pc = .ok (.iastore, 1))
    (h : (pm_vir M S fun v x f i t => pm_ar g.2.2.1 1 f fun n => pm_ix x n fun j => (match v with
    | .inl y => k (pc + 1) L t (pm_u M.1 f i j y, M.2)
    | _ => none)) = some r) : pm_W p l e R s m args below meth c Q g M0 pc L S M := by
  obtain ⟨hx, hb, -, -, -, -, -, -, -, -, hst⟩ := C
  obtain ⟨v, x, f, i, t, hS0, hok, hN⟩ := pm_vir_inv h
  clear h
  subst hS0
  obtain ⟨n, cs, hsh, h99, h1⟩ := pm_ar_inv hN
  obtain ⟨hin, hlt, h2⟩ := pm_ix_inv h1
  split at h2
  · rename_i y
    skip
    intro hle ls H locs hL hlen hW hS
    have hat := pm_P_at (g := g) hW.1 hok h99 hW.2.1
    rw [pm_en_1 hsh] at hat
    refine W.iast hx hb hat ((hst.1.2 0 _ rfl).1 n (fun j => Value.int (M.1 f i j))) (fun q => by cases q) (by show ¬ (x < 0 ∨ (arrV _ _ _).slots.size ≤ _); rw [arrV_size]; exact hin) rfl rfl hd fun H1 e1 z oq => ?_
    refine hk _ _ _ _ h2 hle ls H1 _ hL hlen (pm_Wd_upd hW hst.2.1 rfl (pm_u99 h99) hok h99 ?_ z oq (fun _ _ h => pm_en_i h)) (pm_S_put hS hok h99 hW.2.1 z oq)
    rw [pm_en_1 hsh]
    show H1[_]? = some (vp_cell _ _)
    rw [e1]
    refine congrArg some (pm_arr_upd (F := fun j => Value.int (M.1 f i j)) (F' := fun j => Value.int (pm_u M.1 f i x.toNatClampNeg y f i j)) ?_ ?_)
    · rw [pm_u_s]
    · intro q hq
      rw [pm_u_o hq]
  · cases h2
theorem pm_s_bast (C : pm_Cx p l s m args meth c mi g) (hk : ∀ pc' L' S' M', k pc' L' S' M' = some r → pm_W p l e R s m args below meth c Q g M0 pc' L' S' M') (hd : decode (pm_code mi) pc = .ok (.bastore, 1))
    (h : (pm_vir M S fun v x f i t => pm_ar g.2.2.1 2 f fun n => pm_ix x n fun j => (match v with
    | .inl y => pm_bo y (k (pc + 1) L t (pm_u M.1 f i j y, M.2))
    | _ => none)) = some r) : pm_W p l e R s m args below meth c Q g M0 pc L S M := by
  obtain ⟨hx, hb, -, -, -, -, -, -, -, -, hst⟩ := C
  obtain ⟨v, x, f, i, t, hS0, hok, hN⟩ := pm_vir_inv h
  clear h
  subst hS0
  obtain ⟨n, cs, hsh, h99, h1⟩ := pm_ar_inv hN
  obtain ⟨hin, hlt, h2⟩ := pm_ix_inv h1
  split at h2
  · rename_i y
    obtain ⟨hbo, h2⟩ := pm_bo_inv h2
    intro hle ls H locs hL hlen hW hS
    have hat := pm_P_at (g := g) hW.1 hok h99 hW.2.1
    rw [pm_en_2 hsh] at hat
    refine W.zast hx hb hat ((hst.1.2 1 _ rfl).1 n (fun j => Value.int (M.1 f i j))) (fun q => by cases q) (by show ¬ (x < 0 ∨ (arrV _ _ _).slots.size ≤ _); rw [arrV_size]; exact hin) rfl rfl hd fun H1 e1 z oq => ?_
    refine hk _ _ _ _ h2 hle ls H1 _ hL hlen (pm_Wd_upd hW hst.2.1 rfl (pm_u99 h99) hok h99 ?_ z oq (fun _ _ h => pm_en_i h)) (pm_S_put hS hok h99 hW.2.1 z oq)
    rw [pm_en_2 hsh]
    show H1[_]? = some (vp_cell _ _)
    rw [e1]
    rw [pm_nar_b hbo]
    refine congrArg some (pm_arr_upd (F := fun j => Value.int (M.1 f i j)) (F' := fun j => Value.int (pm_u M.1 f i x.toNatClampNeg y f i j)) ?_ ?_)
    · rw [pm_u_s]
    · intro q hq
      rw [pm_u_o hq]
  · cases h2
theorem pm_s_last (C : pm_Cx p l s m args meth c mi g) (hk : ∀ pc' L' S' M', k pc' L' S' M' = some r → pm_W p l e R s m args below meth c Q g M0 pc' L' S' M') (hd : decode (pm_code mi) pc = .ok (.lastore, 1))
    (h : (pm_vir M S fun v x f i t => pm_ar g.2.2.1 3 f fun n => pm_ix x n fun j => (match v with
    | .inr (.inl y) => k (pc + 1) L t (M.1, pm_u M.2.1 f i j y, M.2.2)
    | _ => none)) = some r) : pm_W p l e R s m args below meth c Q g M0 pc L S M := by
  obtain ⟨hx, hb, -, -, -, -, -, -, -, -, hst⟩ := C
  obtain ⟨v, x, f, i, t, hS0, hok, hN⟩ := pm_vir_inv h
  clear h
  subst hS0
  obtain ⟨n, cs, hsh, h99, h1⟩ := pm_ar_inv hN
  obtain ⟨hin, hlt, h2⟩ := pm_ix_inv h1
  split at h2
  · rename_i y
    skip
    intro hle ls H locs hL hlen hW hS
    have hat := pm_P_at (g := g) hW.1 hok h99 hW.2.1
    rw [pm_en_3 hsh] at hat
    refine W.last hx hb hat ((hst.1.2 2 _ rfl).1 n (fun j => Value.long (M.2.1 f i j))) (fun q => by cases q) (by show ¬ (x < 0 ∨ (arrV _ _ _).slots.size ≤ _); rw [arrV_size]; exact hin) rfl rfl hd fun H1 e1 z oq => ?_
    refine hk _ _ _ _ h2 hle ls H1 _ hL hlen (pm_Wd_upd hW hst.2.1 rfl rfl hok h99 ?_ z oq (fun _ _ h => pm_en_l h)) (pm_S_put hS hok h99 hW.2.1 z oq)
    rw [pm_en_3 hsh]
    show H1[_]? = some (vp_cell _ _)
    rw [e1]
    refine congrArg some (pm_arr_upd (F := fun j => Value.long (M.2.1 f i j)) (F' := fun j => Value.long (pm_u M.2.1 f i x.toNatClampNeg y f i j)) ?_ ?_)
    · rw [pm_u_s]
    · intro q hq
      rw [pm_u_o hq]
  · cases h2
theorem pm_s_aast (C : pm_Cx p l s m args meth c mi g) (hk : ∀ pc' L' S' M', k pc' L' S' M' = some r → pm_W p l e R s m args below meth c Q g M0 pc' L' S' M') (hd : decode (pm_code mi) pc = .ok (.aastore, 1))
    (h : (pm_vir M S fun v x f i t => pm_ar g.2.2.1 4 f fun n => pm_ix x n fun j => (match v with
    | .inr (.inr (some q)) => pm_g M q.1 q.2 (match pm_shp g.2.2.1 q.1, pm_shp g.2.2.1 f with
      | (0, cj, _), (_, _, [ck]) => if cj = ck then k (pc + 1) L t (M.1, M.2.1, pm_u M.2.2.1 f i j (some q), M.2.2.2) else none
      | _, _ => none)
    | _ => none)) = some r) : pm_W p l e R s m args below meth c Q g M0 pc L S M := by
  obtain ⟨hx, hb, -, -, -, -, -, -, -, -, hst⟩ := C
  obtain ⟨v, x, f, i, t, hS0, hok, hN⟩ := pm_vir_inv h
  clear h
  subst hS0
  obtain ⟨n, cs, hsh, h99, h1⟩ := pm_ar_inv hN
  obtain ⟨hin, hlt, h2⟩ := pm_ix_inv h1
  split at h2
  · rename_i q
    obtain ⟨hoq, h3⟩ := pm_g_inv h2
    split at h3
    · rename_i cj tys a1 b1 ck hq1 hf1
      split at h3
      · rename_i hcc
        subst hcc
        rw [hsh] at hf1
        cases hf1
        intro hle ls H locs hL hlen hW hS
        have hat := pm_P_at (g := g) hW.1 hok h99 hW.2.1
        rw [pm_en_4 hsh] at hat
        have hq99 := (pm_shp_obj hq1).1
        have hav := pm_P_at (g := g) hW.1 hoq hq99 hW.2.1
        rw [pm_en_obj hq1] at hav
        obtain ⟨t0, ck', rc, hcs, hrc, hty⟩ := pm_ty4 (g := g) hsh
        cases hcs
        obtain ⟨r', hr', cellV, g1, g2, g3, -⟩ := hav
        have hcls := (hst.1.1 cj rc hrc).2
        obtain ⟨kA, comp, k1, k2, k3, -⟩ := (hst.1.2 t0 _ hty).2
        have hcomp : comp = g.2.2.2.1.1 cj := Option.some.inj (k3.symm.trans hcls.1)
        subst hcomp
        obtain ⟨kC, hkC, -⟩ := hcls.2
        have h0 : ¬ x < 0 := fun z => hin (Or.inl z)
        refine W.aast hx hb hat (fun q h => by cases h) (fun h => by cases h) k1 k2 rfl hkC ⟨h0, by show _ < (arrV _ _ _).slots.size; rw [arrV_size]; exact hlt⟩ g1 (fun q h => by rw [g3] at h; cases h) (by rw [g2]; exact hkC) (by rw [g2]; exact va_assign hcls) rfl rfl hd fun H1 e1 z oq => ?_
        refine hk _ _ _ _ h3 hle ls H1 _ hL hlen (pm_Wd_upd hW hst.2.1 rfl rfl hok h99 ?_ z oq (fun _ _ h => pm_en_r h)) (pm_S_put hS hok h99 hW.2.1 z oq)
        rw [pm_en_4 hsh]
        show H1[_]? = some (vp_cell _ _)
        rw [e1]
        refine congrArg some (pm_arr_upd (F := fun j => va_rf ((M.2.2.1 f i j).map fun (q : Nat × Nat) => pm_ad g q.1 q.2)) (F' := fun j => va_rf ((pm_u M.2.2.1 f i x.toNatClampNeg (some q) f i j).map fun (q : Nat × Nat) => pm_ad g q.1 q.2)) ?_ ?_)
        · show va_rf ((pm_u M.2.2.1 f i x.toNatClampNeg (some q) f i x.toNatClampNeg).map _) = _
          rw [pm_u_s]; rfl
        · intro q9 hq
          show va_rf ((pm_u M.2.2.1 f i x.toNatClampNeg (some q) f i q9).map _) = _
          rw [pm_u_o hq]
      · cases h3
    · cases h3
  · cases h2
end PMZ
