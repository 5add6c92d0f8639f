/-! the four kinds of calls, and two small ones -/
section PMI
variable {p : Program} {l : Launch} {e : Env} {R : Room} {s : State} {m : MethodId} {args : Array Value} {below : List Frame} {meth : Method} {c : Code}
variable {g : pm_G} {M0 : pm_M} {r : pm_O × pm_M} {k : Nat → pm_L → List pm_V → pm_M → pm_R} {pc mi dd : Nat} {L : pm_L} {S : List pm_V} {M : pm_M} {call : Nat → List pm_V → pm_M → pm_R}
theorem pm_named {mj : Nat} (h : (pm_hw mj).before args s = true) : ∃ mk, s.methodNamed? (pm_y mj) = some mk := by
  unfold pm_hw at h
  split at h
  · exact Cond.code_named h
  · obtain ⟨m9, _, _, hn9, -⟩ := Cond.codeWith_spec h
    exact ⟨m9, hn9⟩
theorem pm_split {na : Nat} (h : na ≤ S.length) : S.map (pm_cv g) = ((S.take na).reverse.map (pm_cv g)).reverse ++ (S.drop na).map (pm_cv g) ∧ ((S.take na).reverse.map (pm_cv g)).length = na := by
  constructor
  · rw [List.map_reverse, List.reverse_reverse, ← List.map_append, List.take_append_drop]
  · simp [h]
/-- what a method's row says -/
theorem pm_mrow {mj : Nat} (h : mj < 146) : Cond.initialized (pm_y mj).cls ∈ pm_Tl ∧ (pm_y mj).cls = pm_nm (pm_mcl mj) ∧ plainName (pm_y mj).cls = true ∧ (pm_y mj).cls ≠ "java/lang/invoke/MethodHandle" ∧ (pm_y mj).cls ≠ "java/lang/invoke/VarHandle" := by
  have h1 := pm_mcks mj h
  unfold pm_mck at h1
  split at h1
  · simp only [Bool.and_eq_true, decide_eq_true_eq] at h1
    obtain ⟨⟨⟨⟨a1, a2⟩, a3⟩, a4⟩, a5⟩ := h1
    exact ⟨pm_ini' a1, a2, a3, a4, a5⟩
  · cases h1
theorem pm_desc {mj na ad : Nat} {sig : MethodDescriptor} (h : (parseMethodDescriptor (pm_y mj).desc).map (fun z => z.parameters.length + ad) = some na) (hs : parseMethodDescriptor (pm_y mj).desc = some sig) : sig.parameters.length + ad = na := by
  rw [hs] at h
  exact Option.some.inj h
theorem pm_mws_len : pm_mws.length = 146 := by decide +kernel
theorem pm_mws_some {mj : Nat} (h : mj < 146) : ∃ q, pm_mws[mj]? = some q := ⟨_, List.getElem?_eq_getElem (by rw [pm_mws_len]; exact h)⟩
theorem pm_s_static (C : pm_Cx p l s m args meth c mi g) (hR : pm_Rm dd R) (hk : ∀ pc' L' S' M', k pc' L' S' M' = some r → pm_W p l e R s m args below meth c (pm_Q below g M0 r args s) g M0 pc' L' S' M') (hcall : ∀ mj a M r', call mj a M = some r' → ∃ d, dd = d + 1 ∧ pm_Ct l g d mj a M r') {idx mj na : Nat} (hm : (pm_own mi, idx, mj, na, 0) ∈ pm_mths) (hd : decode (pm_code mi) pc = .ok (.invokestatic idx, 3))
    (h : (if na ≤ S.length ∧ ((S.drop na).map pm_cat).sum ≤ 8 then pm_cl call mi k pc mj (S.take na).reverse (S.drop na) L M else none) = some r) : pm_W p l e R s m args below meth c (pm_Q below g M0 r args s) g M0 pc L S M := by
  split at h
  · rename_i hc
    obtain ⟨hna, hsum⟩ := hc
    obtain ⟨b9, h1⟩ := pm_zip_all pm_lcks (by decide +kernel) hm
    have h1 : (decide (mj < 146) && pm_ti b9 (.methodLink (pm_nm (pm_own mi)) idx (pm_y mj))) = true := h1
    rw [Bool.and_eq_true, decide_eq_true_eq] at h1
    obtain ⟨hmj, hlk⟩ := h1
    have h2 := List.all_eq_true.mp pm_ncks _ hm
    obtain ⟨q9, hq9⟩ := pm_mws_some hmj
    obtain ⟨x1, x2, x3, x4⟩ := q9
    unfold pm_nck at h2
    dsimp only at h2
    rw [hq9] at h2
    have h2 : (decide ((parseMethodDescriptor (pm_y mj).desc).map (fun z => z.parameters.length + 0) = some na) && pm_ti x3 (.static (pm_y mj))) = true := h2
    rw [Bool.and_eq_true, decide_eq_true_eq] at h2
    obtain ⟨hini, -, -, n1, n2⟩ := pm_mrow hmj
    have hts := C.2.2.2.2.2.1
    obtain ⟨mk, hn⟩ := pm_named (hts _ (pm_hw_in hmj))
    obtain ⟨methY, cY, y1, y2, y3, y4, y5, y6, y7, y8⟩ := pm_hw_spec hn (hts _ (pm_hw_in hmj))
    have hstt : methY.isStatic = true := Cond.static_spec hn y1 (hts _ (pm_ini' h2.2))
    obtain ⟨kY, hkY, -⟩ := className_of_methodNamed hn
    have hinitY : kY.init = .initialized := Cond.initialized_spec (findClass_of_methodNamed hn) hkY (hts _ hini)
    obtain ⟨hsp, hln⟩ := pm_split (g := g) hna
    intro hle ls H locs hL hlen hW hS T hT X
    subst hT
    have hd' : decode c.code pc = .ok (.invokestatic idx, 3) := by rw [C.2.1]; exact hd
    obtain ⟨vm₁, X₁, hst⟩ := X.invokestatic C.1 C.2.2.2.2.1 (hts _ (pm_ini' hlk)) hn y1 hstt hkY hinitY ⟨n1, n2⟩ (g := F0 m pc ls (S.map (pm_cv g))) rfl (argsL := (S.take na).reverse.map (pm_cv g)) (rest := (S.drop na).map (pm_cv g))
      (by rw [hln]; exact (pm_desc h2.1 y8).symm) hsp hd'
    cases hcc : call mj (S.take na).reverse M with
    | none => unfold pm_cl at h; rw [hcc] at h; cases h
    | some r' =>
      obtain ⟨d, rfl, -⟩ := hcall _ _ _ _ hcc
      obtain ⟨t', a1, b1⟩ := pm_goes (T := T.setVm vm₁) C hR hk (fun mj a M r' h => by obtain ⟨d', e9, h9⟩ := hcall mj a M r' h; cases e9; exact h9) h hmj hini hsum hd' hle hL hlen X₁ hW hS (X₁.named hn)
      exact ⟨t', hst _ fun acts => by rw [doInvoke_state]; exact a1, b1⟩
  · cases h
theorem pm_rc_inv {ns cl : Nat} {a : List pm_V} {G : pm_R} (h : pm_rc ns M cl a G = some r) : ∃ f i t tys, a = pm_r f i :: t ∧ pm_ok M f i = true ∧ pm_shp ns f = (0, cl, tys) ∧ G = some r := by
  unfold pm_rc at h
  split at h
  · rename_i f i t
    obtain ⟨h1, h2⟩ := pm_g_inv h
    split at h2
    · rename_i cj tys hs
      split at h2
      · rename_i hc
        subst hc
        exact ⟨f, i, t, tys, rfl, h1, hs, h2⟩
      · cases h2
    · cases h2
  · cases h
/-- what a call on an object needs: its row, its receiver -/
theorem pm_recv {f i cl : Nat} {tys : List Nat} (C : pm_Cx p l s m args meth c mi g) {H : Heap} (hW : pm_Wd g M s H) (hok : pm_ok M f i = true) (hsh : pm_shp g.2.2.1 f = (0, cl, tys)) : ∃ cell, H[pm_ad g f i]? = some cell ∧ cell.vm = .none ∧ s.vm.findClass (pm_nm cl) = some cell.cls := by
  have hst := C.2.2.2.2.2.2.2.2.2.2
  have hat := pm_P_at (g := g) hW.1 hok (pm_shp_obj hsh).1 hW.2.1
  rw [pm_en_obj hsh] at hat
  obtain ⟨r', hr', cell, q1, q2, q3, -⟩ := hat
  obtain ⟨Cn, T, N⟩ := r'
  have e := (pm_cl_ok hr').2.2.2.2.1
  refine ⟨cell, q1, q3, ?_⟩
  rw [← e, q2]
  exact (hst.1.1 cl _ hr').2.1
theorem pm_s_virt (C : pm_Cx p l s m args meth c mi g) (hR : pm_Rm dd R) (hk : ∀ pc' L' S' M', k pc' L' S' M' = some r → pm_W p l e R s m args below meth c (pm_Q below g M0 r args s) g M0 pc' L' S' M') (hcall : ∀ mj a M r', call mj a M = some r' → ∃ d, dd = d + 1 ∧ pm_Ct l g d mj a M r') {idx mj na : Nat} (hm : (pm_own mi, idx, mj, na, 1) ∈ pm_mths) (hd : decode (pm_code mi) pc = .ok (.invokevirtual idx, 3))
    (h : (if na ≤ S.length ∧ ((S.drop na).map pm_cat).sum ≤ 8 then pm_rc g.2.2.1 M (pm_mcl mj) (S.take na).reverse (pm_cl call mi k pc mj (S.take na).reverse (S.drop na) L M) else none) = some r) : pm_W p l e R s m args below meth c (pm_Q below g M0 r args s) g M0 pc L S M := by
  split at h
  · rename_i hc
    obtain ⟨hna, hsum⟩ := hc
    obtain ⟨f, i, as, tys, ha, hok, hsh, h⟩ := pm_rc_inv h
    obtain ⟨b9, h1⟩ := pm_zip_all pm_lcks (by decide +kernel) hm
    have h1 : (decide (mj < 146) && pm_ti b9 (.methodLink (pm_nm (pm_own mi)) idx (pm_y mj))) = true := h1
    rw [Bool.and_eq_true, decide_eq_true_eq] at h1
    obtain ⟨hmj, hlk⟩ := h1
    have h2 := List.all_eq_true.mp pm_ncks _ hm
    obtain ⟨q9, hq9⟩ := pm_mws_some hmj
    obtain ⟨x1, x2, x3, x4⟩ := q9
    unfold pm_nck at h2
    dsimp only at h2
    rw [hq9] at h2
    have h2 : (decide ((parseMethodDescriptor (pm_y mj).desc).map (fun z => z.parameters.length + 1) = some na) && (pm_ti x3 (.instanceMethod (pm_y mj)) && pm_ti x4 (.selects (pm_y mj).cls (pm_y mj) (pm_y mj)) && decide (pm_hnr mj = []))) = true := h2
    simp only [Bool.and_eq_true, decide_eq_true_eq] at h2
    obtain ⟨hdn, ⟨hin, hse⟩, -⟩ := h2
    obtain ⟨hini, hcn, -, n1, n2⟩ := pm_mrow hmj
    have hts := C.2.2.2.2.2.1
    obtain ⟨mk, methM, hnamed, hmethM, hstM, habM⟩ := Cond.instanceMethod_spec (hts _ (pm_ini' hin))
    obtain ⟨methY, cY, y1, y2, y3, y4, y5, y6, y7, y8⟩ := pm_hw_spec hnamed (hts _ (pm_hw_in hmj))
    cases hmethM.symm.trans y1
    obtain ⟨hsp, hln⟩ := pm_split (g := g) hna
    intro hle ls H locs hL hlen hW hS T hT X
    subst hT
    obtain ⟨cellB, hcell, hvm, hcls⟩ := pm_recv C hW hok hsh
    rw [← hcn] at hcls
    obtain ⟨c2, r2, m2, q1, q2, q3, q4, kP, hkP, hkPi⟩ := Cond.selects_spec (hts _ (pm_ini' hse))
    cases hcls.symm.trans q1
    cases (State.methodFound?_of_named hnamed ⟨n1, n2⟩).symm.trans q2
    cases hnamed.symm.trans q3
    have hselP : selectMethod e.platform s.vm cellB.cls mk = .method mk := by rw [Launch.admits_selectMethod X.admits]; exact q4
    have hd' : decode c.code pc = .ok (.invokevirtual idx, 3) := by rw [C.2.1]; exact hd
    rw [ha] at hsp hln
    have hln2 : as.length + 1 = na := by simpa using hln
    obtain ⟨vm₁, X₁, hst⟩ := X.invokevirtual C.1 C.2.2.2.2.1 (hts _ (pm_ini' hlk)) hnamed y1 hstM hkP hkPi ⟨n1, n2⟩ (a := pm_ad g f i) (cell := cellB) hcell
      (fun z h => by rw [hvm] at h; cases h) hselP y1 habM hkP hkPi (g := F0 m pc ls (S.map (pm_cv g))) rfl (argsL := as.map (pm_cv g)) (rest := (S.drop na).map (pm_cv g))
      (by rw [List.length_map]; have := pm_desc hdn y8; omega) (by rw [hsp]; simp [pm_cv]) hd'
    cases hcc : call mj (S.take na).reverse M with
    | none => unfold pm_cl at h; rw [hcc] at h; cases h
    | some r' =>
      obtain ⟨d, rfl, -⟩ := hcall _ _ _ _ hcc
      obtain ⟨t', a1, b1⟩ := pm_goes (T := T.setVm vm₁) C hR hk (fun mj a M r' h => by obtain ⟨d', e9, h9⟩ := hcall mj a M r' h; cases e9; exact h9) h hmj hini hsum hd' hle hL hlen X₁ hW hS (X₁.named hnamed)
      rw [ha] at a1
      exact ⟨t', hst _ fun acts => by rw [doInvoke_state]; exact a1, b1⟩
  · cases h
end PMI
