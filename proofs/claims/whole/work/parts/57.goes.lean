/-! a call, whatever its end -/
section PMU
variable {p : Program} {l : Launch} {e : Env} {R : Room} {s : State} {m : MethodId} {args : Array Value} {below : List Frame} {meth : Method} {c : Code}
variable {g : pm_G} {M0 : pm_M} {r : pm_O × pm_M} {k : Nat → pm_L → List pm_V → pm_M → pm_R} {pc mi d : Nat} {L : pm_L} {S : List pm_V} {M : pm_M} {call : Nat → List pm_V → pm_M → pm_R}
theorem pm_sums {M' : pm_M} (h1 : pm_le M0 M) (h2 : pm_le M M') : pm_cb M - pm_cb M0 + (pm_cb M' - pm_cb M) = pm_cb M' - pm_cb M0 ∧ pm_sb M - pm_sb M0 + (pm_sb M' - pm_sb M) = pm_sb M' - pm_sb M0 := by
  obtain ⟨a1, a2⟩ := h1
  obtain ⟨b1, b2⟩ := h2
  unfold pm_cb pm_sb
  omega
theorem pm_small (hle : M.2.2.2.1 ≤ pm_tot ∧ M.2.2.2.2 ≤ 600) : pm_cb M - pm_cb M0 ≤ 1000 ∧ pm_sb M - pm_sb M0 ≤ 20000 := by
  have e1 : pm_cb M = M.2.2.2.1 + M.2.2.2.2 := rfl
  have e2 : pm_sb M = 128 * M.2.2.2.1 + 6 * M.2.2.2.2 := rfl
  have e3 := pm_tot96
  omega
theorem pm_le.trans {A B D : pm_M} (h1 : pm_le A B) (h2 : pm_le B D) : pm_le A D := ⟨Nat.le_trans h1.1 h2.1, Nat.le_trans h1.2 h2.2⟩
theorem pm_goes (C : pm_Cx p l s m args meth c mi g) (hR : pm_Rm (d + 1) R) (hk : ∀ pc' L' S' M', k pc' L' S' M' = some r → pm_W p l e R s m args below meth c (pm_Q below g M0 r args s) g M0 pc' L' S' M')
    (hcall : ∀ mj a M r', call mj a M = some r' → pm_Ct l g d mj a M r') {mj : Nat} {a t : List pm_V} (h : pm_cl call mi k pc mj a t L M = some r) (hmj : mj < 146) (hini : Cond.initialized (pm_y mj).cls ∈ pm_Tl) (hsum : (t.map pm_cat).sum ≤ 8) {ig : Instr} (hd : decode c.code pc = .ok (ig, 3))
    (hle : pm_le M0 M) {ls : Array Slot} {locs : List Loc} (hL : pm_LR g L ls) (hlen : L.length = c.maxLocals) {T : State} (X : Stand p l e R s m args below meth c T locs (pm_cb M - pm_cb M0) (pm_sb M - pm_sb M0)) (hW : pm_Wd g M s T.heap) (hS : va_S (pm_A g) s.heap T.heap locs) {mk : MethodId} (hn : T.methodNamed? (pm_y mj) = some mk) :
    ∃ t', Steps p.tables e below (doInvoke e (T.setTop (F0 m pc ls (t.map (pm_cv g)))) [] mk (a.map (pm_cv g)).toArray).1 t' ∧ pm_Q below g M0 r args s t' := by
  unfold pm_cl at h
  cases hcc : call mj a M with
  | none => rw [hcc] at h; cases h
  | some r' =>
    rw [hcc] at h
    obtain ⟨o, M'⟩ := r'
    obtain ⟨oc, s₂, T', L', st, hout, e5, hWd, hSS, hlm, X1, hcase⟩ := pm_run (M := M) C hR X (pm_small ⟨hW.2.1, hW.2.2.1⟩) (by rw [hL.1, hlen]) hsum hd (hcall _ _ _ _ hcc) hmj hini hn hW hS
    obtain ⟨c1, c2⟩ := pm_sums hle hlm
    have hlm : pm_le M M' := hlm
    have hlf : pm_le M0 M' := hle.trans hlm
    have X' : Stand p l e R s m args below meth c T' (locs ++ L') (pm_cb M' - pm_cb M0) (pm_sb M' - pm_sb M0) := by rw [← c1, ← c2]; exact X1
    clear X1
    cases o with
    | inl v =>
      have hout : oc = .returned (v.map (pm_cv g)) := hout
      subst hout
      rcases hcase with ⟨v', hv, e7⟩ | ⟨x, hx, -⟩
      · cases hv
        have h : k (pc + 3) L (v.toList ++ t) M' = some r := h
        obtain ⟨t', a1, b1⟩ := hk _ _ _ _ h hlf ls T'.heap (locs ++ L') hL hlen hWd hSS T' rfl X'
        refine ⟨t', st.trans ?_, b1⟩
        rw [e7]
        have ev : (v.map (pm_cv g)).toList ++ t.map (pm_cv g) = (v.toList ++ t).map (pm_cv g) := by
          cases v <;> rfl
        rw [ev]
        exact a1
      · cases hx
    | inr x =>
      obtain ⟨a9, ce, ho, hce, hcv, hcls⟩ := hout
      subst ho
      rcases hcase with ⟨v', hv, -⟩ | ⟨x', hx, e7⟩
      · cases hv
      · cases hx
        have hce' : T'.heap[a9]? = some ce := by rw [e5]; exact hce
        have h : pm_ct mi k pc x L M' = some r := h
        unfold pm_ct at h
        split at h
        · split at h
          · rename_i hnd
            cases h
            have hnr : c.exceptionTable.toList = [] := by
              have h9 := C.2.2.2.2.2.2.2.2.1
              rw [pm_hnr_nil hnd] at h9
              exact List.map_eq_nil_iff.mp h9
            obtain ⟨st1, hrun, hend, hw, hsm⟩ := X'.leaveThrown a9 (g := F0 m pc ls (t.map (pm_cv g))) rfl rfl rfl (fun z hz => by rw [hnr] at hz; cases hz) C.2.2.2.2.2.2.1
            refine ⟨_, st.trans (by rw [e7]; exact st1), ?_⟩
            exact pm_fin hlf hWd hSS rfl hrun hend hw hsm ⟨a9, ce, rfl, hce', hcv, hcls⟩
          · cases h
        · rename_i hp hhd
          have hpl : e.platform.magicAccessors = ({} : Platform).magicAccessors := by rw [X'.admits.platform]
          have hx2 := pm_hd_x pm_hnd_lt hhd
          have hck := pm_hcks mi (pm_hd_lt hhd)
          rw [← C.2.2.2.2.2.2.2.2.1] at hck
          obtain ⟨pre, z, rest, es, hpass, hcov, hz0, hzl, hzh⟩ := pm_hsearch (pc := pc) _ _ hck hhd
          have hts := C.2.2.2.2.2.1
          obtain ⟨cz, hcz, hlz⟩ := Cond.classLink_spec C.2.2.2.2.1 (hts _ hzl) e.platform hpl
          cases Option.some.inj (hcz.symm.trans hcls)
          have hself : s.vm.assignable ce.cls ce.cls = true := by
            have hw : Cond.castable (pm_exn x) (pm_exn x) ∈ pm_Tl := by
              rcases x with _ | _ | x
              · exact pm_in pm_cst.1
              · exact pm_in pm_cst.2
              · omega
            obtain ⟨c3, c4, h3, h4, h5⟩ := Cond.castable_spec (hts _ hw)
            cases Option.some.inj (h3.symm.trans hcls)
            cases Option.some.inj (h4.symm.trans hcls)
            exact h5
          have hkc : ∃ kk, s.vm.classes[ce.cls]? = some kk := by
            obtain ⟨k9, h9, -⟩ := Vm.findClass_spec hcls
            exact ⟨k9, h9⟩
          obtain ⟨vm', XV, stV⟩ := pm_caught X' a9 (g := F0 m pc ls (t.map (pm_cv g))) rfl hce' hcv hkc pre z rest es (fun y hy => by
            rcases hpass y hy with h9 | ⟨hy0, yx, hne, hy2, hyl⟩
            · exact Or.inl h9
            · obtain ⟨cy, hcy, hly⟩ := Cond.classLink_spec C.2.2.2.2.1 (hts _ hyl) e.platform hpl
              exact Or.inr ⟨hy0, cy, hly, pm_not_cast C.2.2.2.2.2.2.2.2.2.2.2.2.2.2.2 hne hx2 hy2 hcls hcy⟩) hcov hz0 hlz hself
          rw [hzh] at stV
          have hfin : ∀ {j n : Nat} (hj : j < L.length ∧ pm_pre L j = true) (hkk : k (hp + n) (L.set j none) [] M' = some r)
              (row : ∀ {ls' : Array Slot}, storeLocals ls j (.ref a9) = some ls' → W p l e R s m args below meth c T'.heap (locs ++ L') (pm_cb M' - pm_cb M0) (pm_sb M' - pm_sb M0) (pm_Q below g M0 r args s) (F0 m (hp + n) ls' []) → W p l e R s m args below meth c T'.heap (locs ++ L') (pm_cb M' - pm_cb M0) (pm_sb M' - pm_sb M0) (pm_Q below g M0 r args s) (F0 m hp ls [.ref a9])),
              ∃ t', Steps p.tables e below (doInvoke e (T.setTop (F0 m pc ls (t.map (pm_cv g)))) [] mk (a.map (pm_cv g)).toArray).1 t' ∧ pm_Q below g M0 r args s t' := by
            intro j n hj hkk row
            obtain ⟨ls', e', hL'⟩ := pm_LR_none (v := .ref a9) hL hj.1 hj.2 rfl
            obtain ⟨t', a1, b1⟩ := row e' (hk _ _ _ _ hkk hlf ls' T'.heap (locs ++ L') hL' (by rw [List.length_set]; exact hlen) hWd hSS) (T'.setVm vm') rfl XV
            refine ⟨t', st.trans ?_, b1⟩
            rw [e7]
            exact stV _ a1
          split at h
          · rename_i j ht
            split at h
            · rename_i hj
              exact hfin hj h fun e' w => pm_w_astore_n C.1 C.2.1 (Or.inr ⟨_, rfl⟩) (pm_dec ht).1 e' w
            · cases h
          · rename_i j ht
            split at h
            · rename_i hj
              exact hfin hj h fun e' w => pm_w_astore C.1 C.2.1 (Or.inr ⟨_, rfl⟩) (pm_dec ht).1 e' w
            · cases h
          · cases h
end PMU
