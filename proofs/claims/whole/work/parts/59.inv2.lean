/-! constructors; Object's own; Math.min -/
section PMJ
variable {p : Program} {l : Launch} {e : Env} {R : Room} {s : State} {m : MethodId} {args : Array Value} {below : List Frame} {meth : Method} {c : Code}
variable {g : pm_G} {M0 : pm_M} {r : pm_O × pm_M} {k : Nat → pm_L → List pm_V → pm_M → pm_R} {pc mi dd : Nat} {L : pm_L} {S : List pm_V} {M : pm_M} {call : Nat → List pm_V → pm_M → pm_R}
theorem pm_s_spec (C : pm_Cx p l s m args meth c mi g) (hR : pm_Rm dd R) (hk : ∀ pc' L' S' M', k pc' L' S' M' = some r → pm_W p l e R s m args below meth c (pm_Q below g M0 r args s) g M0 pc' L' S' M') (hcall : ∀ mj a M r', call mj a M = some r' → ∃ d, dd = d + 1 ∧ pm_Ct l g d mj a M r') {idx mj na : Nat} (hm : (pm_own mi, idx, mj, na, 2) ∈ pm_mths) (hd : decode (pm_code mi) pc = .ok (.invokespecial idx, 3))
    (h : (if na ≤ S.length ∧ ((S.drop na).map pm_cat).sum ≤ 8 then pm_rc g.2.2.1 M (pm_mcl mj) (S.take na).reverse (pm_cl call mi k pc mj (S.take na).reverse (S.drop na) L M) else none) = some r) : pm_W p l e R s m args below meth c (pm_Q below g M0 r args s) g M0 pc L S M := by
  split at h
  · rename_i hc
    obtain ⟨hna, hsum⟩ := hc
    obtain ⟨f, i, as, tys, ha, hok, hsh, h⟩ := pm_rc_inv h
    obtain ⟨b9, h1⟩ := pm_zip_all pm_lcks (by decide +kernel) hm
    have h1 : (decide (mj < 146) && pm_ti b9 (.methodLink (pm_nm (pm_own mi)) idx (pm_y mj))) = true := h1
    rw [Bool.and_eq_true, decide_eq_true_eq] at h1
    obtain ⟨hmj, hlk⟩ := h1
    have h2 := List.all_eq_true.mp pm_ncks _ hm
    obtain ⟨q9, hq9⟩ := pm_mws_some hmj
    obtain ⟨x1, x2, x3, x4⟩ := q9
    unfold pm_nck at h2
    dsimp only at h2
    rw [hq9] at h2
    have h2 : (decide ((parseMethodDescriptor (pm_y mj).desc).map (fun z => z.parameters.length + 1) = some na) && (pm_ti x3 (.instanceMethod (pm_y mj)) && decide ((pm_y mj).name = "<init>") && decide (pm_hnr mj = []) && decide (pm_rt mj = none))) = true := h2
    simp only [Bool.and_eq_true, decide_eq_true_eq] at h2
    obtain ⟨hdn, ⟨⟨hin, hnm⟩, hnr⟩, hrt⟩ := h2
    obtain ⟨hini, hcn, -, n1, n2⟩ := pm_mrow hmj
    have hts := C.2.2.2.2.2.1
    have hcode : (Cond.code (pm_y mj) (pm_code mj) (pm_maxL mj) none).before args s = true := by
      have h9 := hts _ (pm_hw_in hmj)
      unfold pm_hw at h9
      rw [hnr, hrt] at h9
      exact h9
    obtain ⟨hsp, hln⟩ := pm_split (g := g) hna
    intro hle ls H locs hL hlen hW hS T hT X
    subst hT
    have hd' : decode c.code pc = .ok (.invokespecial idx, 3) := by rw [C.2.1]; exact hd
    rw [ha] at hsp hln
    have hln2 : as.length + 1 = na := by simpa using hln
    have hpl : e.platform.magicAccessors = ({} : Platform).magicAccessors := by rw [X.admits.platform]
    obtain ⟨mk, methM, cM, kP, vm₁, hnamed, hmethM, hcodeM, -, hlocalsM, -, hkP, -, hW₁, hst⟩ := Steps.initColdArgs (e := e) X.here C.1 X.warmed hpl C.2.2.2.2.1 hnm ⟨n1, n2⟩ (hts _ (pm_ini' hlk)) (hts _ (pm_ini' hin)) hcode (f := F0 m pc ls (S.map (pm_cv g))) rfl (a := pm_ad g f i) (argsL := as.map (pm_cv g)) (rest := (S.drop na).map (pm_cv g))
      (fun sig h9 => by rw [List.length_map]; have := pm_desc hdn h9; omega) (by rw [hsp]; simp [pm_cv]) hd'
    have X₁ := X.noted hW₁
    cases hcc : call mj (S.take na).reverse M with
    | none => unfold pm_cl at h; rw [hcc] at h; cases h
    | some r' =>
      obtain ⟨d, rfl, -⟩ := hcall _ _ _ _ hcc
      obtain ⟨t', a1, b1⟩ := pm_goes (T := T.setVm vm₁) C hR hk (fun mj a M r' h => by obtain ⟨d', e9, h9⟩ := hcall mj a M r' h; cases e9; exact h9) h hmj hini hsum hd' hle hL hlen X₁ hW hS (X₁.named hnamed)
      rw [ha] at a1
      exact ⟨t', hst _ fun acts => by rw [doInvoke_state]; exact a1, b1⟩
  · cases h
theorem pm_s_nest (C : pm_Cx p l s m args meth c mi g) (hR : pm_Rm dd R) (hk : ∀ pc' L' S' M', k pc' L' S' M' = some r → pm_W p l e R s m args below meth c (pm_Q below g M0 r args s) g M0 pc' L' S' M') (hcall : ∀ mj a M r', call mj a M = some r' → ∃ d, dd = d + 1 ∧ pm_Ct l g d mj a M r') {idx mj na : Nat} (hm : (pm_own mi, idx, mj, na, 5) ∈ pm_mths) (hd : decode (pm_code mi) pc = .ok (.invokespecial idx, 3))
    (h : (if na ≤ S.length ∧ ((S.drop na).map pm_cat).sum ≤ 8 then pm_rc g.2.2.1 M (pm_mcl mj) (S.take na).reverse (pm_cl call mi k pc mj (S.take na).reverse (S.drop na) L M) else none) = some r) : pm_W p l e R s m args below meth c (pm_Q below g M0 r args s) g M0 pc L S M := by
  split at h
  · rename_i hc
    obtain ⟨hna, hsum⟩ := hc
    obtain ⟨f, i, as, tys, ha, hok, hsh, h⟩ := pm_rc_inv h
    obtain ⟨b9, h1⟩ := pm_zip_all pm_lcks (by decide +kernel) hm
    have h1 : (decide (mj < 146) && pm_ti b9 (.methodLinkNest (pm_nm (pm_own mi)) idx (pm_y mj) "JobLayer")) = true := h1
    rw [Bool.and_eq_true, decide_eq_true_eq] at h1
    obtain ⟨hmj, hlk⟩ := h1
    have h2 := List.all_eq_true.mp pm_ncks _ hm
    obtain ⟨q9, hq9⟩ := pm_mws_some hmj
    obtain ⟨x1, x2, x3, x4⟩ := q9
    unfold pm_nck at h2
    dsimp only at h2
    rw [hq9] at h2
    have h2 : (decide ((parseMethodDescriptor (pm_y mj).desc).map (fun z => z.parameters.length + 1) = some na) && (pm_ti x3 (.instanceMethod (pm_y mj)) && decide ((pm_y mj).name = "<init>") && decide (pm_hnr mj = []) && decide (pm_rt mj = none))) = true := h2
    simp only [Bool.and_eq_true, decide_eq_true_eq] at h2
    obtain ⟨hdn, ⟨⟨hin, hnm⟩, hnr⟩, hrt⟩ := h2
    obtain ⟨hini, hcn, -, n1, n2⟩ := pm_mrow hmj
    have hts := C.2.2.2.2.2.1
    have hcode : (Cond.code (pm_y mj) (pm_code mj) (pm_maxL mj) none).before args s = true := by
      have h9 := hts _ (pm_hw_in hmj)
      unfold pm_hw at h9
      rw [hnr, hrt] at h9
      exact h9
    obtain ⟨hsp, hln⟩ := pm_split (g := g) hna
    intro hle ls H locs hL hlen hW hS T hT X
    subst hT
    have hd' : decode c.code pc = .ok (.invokespecial idx, 3) := by rw [C.2.1]; exact hd
    rw [ha] at hsp hln
    have hln2 : as.length + 1 = na := by simpa using hln
    have hpl : e.platform.magicAccessors = ({} : Platform).magicAccessors := by rw [X.admits.platform]
    obtain ⟨mk, methM, cM, kP, vm₁, hnamed, hmethM, hcodeM, -, hlocalsM, -, hkP, -, hW₁, hst⟩ := Steps.initColdArgsNest (e := e) X.here C.1 X.warmed hpl C.2.2.2.2.1 hnm ⟨n1, n2⟩ (hts _ (pm_ini' hlk)) (hts _ (pm_ini' hin)) hcode (f := F0 m pc ls (S.map (pm_cv g))) rfl (a := pm_ad g f i) (argsL := as.map (pm_cv g)) (rest := (S.drop na).map (pm_cv g))
      (fun sig h9 => by rw [List.length_map]; have := pm_desc hdn h9; omega) (by rw [hsp]; simp [pm_cv]) hd'
    have X₁ := X.noted hW₁
    cases hcc : call mj (S.take na).reverse M with
    | none => unfold pm_cl at h; rw [hcc] at h; cases h
    | some r' =>
      obtain ⟨d, rfl, -⟩ := hcall _ _ _ _ hcc
      obtain ⟨t', a1, b1⟩ := pm_goes (T := T.setVm vm₁) C hR hk (fun mj a M r' h => by obtain ⟨d', e9, h9⟩ := hcall mj a M r' h; cases e9; exact h9) h hmj hini hsum hd' hle hL hlen X₁ hW hS (X₁.named hnamed)
      rw [ha] at a1
      exact ⟨t', hst _ fun acts => by rw [doInvoke_state]; exact a1, b1⟩
  · cases h
theorem pm_s_obj (C : pm_Cx p l s m args meth c mi g) (hR : pm_Rm dd R) (hk : ∀ pc' L' S' M', k pc' L' S' M' = some r → pm_W p l e R s m args below meth c (pm_Q below g M0 r args s) g M0 pc' L' S' M') {idx mj na : Nat} (hm : (pm_own mi, idx, mj, na, 3) ∈ pm_mths) (hd : decode (pm_code mi) pc = .ok (.invokespecial idx, 3))
    (h : (pm_r1 M S fun _ _ t => if (t.map pm_cat).sum ≤ 8 then k (pc + 3) L t M else none) = some r) : pm_W p l e R s m args below meth c (pm_Q below g M0 r args s) g M0 pc L S M := by
  obtain ⟨f, i, t, hS0, hok, hN⟩ := pm_r1_inv h
  clear h
  subst hS0
  have h := hN
  split at h
  · rename_i hsum
    obtain ⟨b9, h1⟩ := pm_zip_all pm_lcks (by decide +kernel) hm
    have h1 : (decide (na = 1) && pm_ti b9 (.methodLink (pm_nm (pm_own mi)) idx Lib.objectInit)) = true := h1
    rw [Bool.and_eq_true] at h1
    have hts := C.2.2.2.2.2.1
    obtain ⟨q1, q2, q3, q4⟩ := hR
    intro hle ls H locs hL hlen hW hS
    refine W.objInit C.1 C.2.1 C.2.2.2.2.1 (hts _ (pm_ini' h1.2)) (hts _ (pm_in pm_oi.1)) (hts _ (pm_in pm_oi.2)) rfl (by show ls.size = _; rw [hL.1, hlen]) rfl hd (by omega) ?_ (hk _ _ _ _ h hle ls H locs hL hlen hW hS)
    show 2 * 0 + ((t.map (pm_cv g)).map fun v => v.category).sum + 12 ≤ R.locals
    rw [pm_sum_cv]
    omega
  · cases h
theorem pm_s_min (C : pm_Cx p l s m args meth c mi g) (hR : pm_Rm dd R) (hk : ∀ pc' L' S' M', k pc' L' S' M' = some r → pm_W p l e R s m args below meth c (pm_Q below g M0 r args s) g M0 pc' L' S' M') {idx mj na : Nat} (hm : (pm_own mi, idx, mj, na, 4) ∈ pm_mths) (hd : decode (pm_code mi) pc = .ok (.invokestatic idx, 3))
    (h : (pm_i2 S fun x y t => if (t.map pm_cat).sum ≤ 8 then k (pc + 3) L (pm_i (if y < x then y else x) :: t) M else none) = some r) : pm_W p l e R s m args below meth c (pm_Q below g M0 r args s) g M0 pc L S M := by
  obtain ⟨x, y, t, hS0, hN⟩ := pm_i2_inv h
  clear h
  subst hS0
  have h := hN
  split at h
  · rename_i hsum
    obtain ⟨b9, h1⟩ := pm_zip_all pm_lcks (by decide +kernel) hm
    have h1 : (decide (na = 2) && pm_ti b9 (.methodLink (pm_nm (pm_own mi)) idx Lib.Math.min.name)) = true := h1
    rw [Bool.and_eq_true] at h1
    have hts := C.2.2.2.2.2.1
    obtain ⟨q1, q2, q3, q4⟩ := hR
    intro hle ls H locs hL hlen hW hS
    have hsm := pm_small (M0 := M0) ⟨hW.2.1, hW.2.2.1⟩
    refine va_mmin C.1 C.2.1 (by rw [hL.1, hlen]) C.2.2.2.2.1 (hts _ (pm_ini' h1.2)) (hts _ (pm_in pm_mm.1)) (hts _ (pm_in pm_mm.2.1)) (hts _ (pm_in pm_mm.2.2)) (by omega) ?_ (by omega) (by omega) hd (hk _ _ _ _ h hle ls H locs hL hlen hW hS)
    rw [pm_sum_cv]
    omega
  · cases h
theorem pm_s_inv (C : pm_Cx p l s m args meth c mi g) (hR : pm_Rm dd R) (hk : ∀ pc' L' S' M', k pc' L' S' M' = some r → pm_W p l e R s m args below meth c (pm_Q below g M0 r args s) g M0 pc' L' S' M') (hcall : ∀ mj a M r', call mj a M = some r' → ∃ d, dd = d + 1 ∧ pm_Ct l g d mj a M r') {op idx : Nat} {ig : Instr} (hop : (op = 0 ∧ ig = .invokestatic idx) ∨ (op = 1 ∧ ig = .invokevirtual idx) ∨ (op = 2 ∧ ig = .invokespecial idx)) (hd : decode (pm_code mi) pc = .ok (ig, 3))
    (h : pm_inv call g.2.2.1 mi k op idx pc L S M = some r) : pm_W p l e R s m args below meth c (pm_Q below g M0 r args s) g M0 pc L S M := by
  unfold pm_inv at h
  split at h
  · rename_i mj na kd hq
    have hm := pm_lk_mem hq
    split at h
    · rename_i hko
      have h9 : ∀ q ∈ pm_mths, q.2.2.2.2 ≤ 5 := by decide +kernel
      have h5 : kd ≤ 5 := h9 _ hm
      split at h
      · have h2 : op = 2 := hko.symm
        subst h2
        rcases hop with ⟨h0, -⟩ | ⟨h0, -⟩ | ⟨-, rfl⟩
        · cases h0
        · cases h0
        · exact pm_s_obj C hR hk hm hd h
      · have h2 : op = 0 := hko.symm
        subst h2
        rcases hop with ⟨-, rfl⟩ | ⟨h0, -⟩ | ⟨h0, -⟩
        · exact pm_s_min C hR hk hm hd h
        · cases h0
        · cases h0
      · have h2 : op = 0 := hko.symm
        subst h2
        rcases hop with ⟨-, rfl⟩ | ⟨h0, -⟩ | ⟨h0, -⟩
        · exact pm_s_static C hR hk hcall hm hd h
        · cases h0
        · cases h0
      · rename_i n3 n4 n0
        have h6 : kd = 1 ∨ kd = 2 ∨ kd = 5 := by
          have a3 : kd ≠ 3 := n3
          have a4 : kd ≠ 4 := n4
          have a0 : kd ≠ 0 := n0
          omega
        rcases h6 with rfl | rfl | rfl
        · have h2 : op = 1 := hko.symm
          subst h2
          rcases hop with ⟨h0, -⟩ | ⟨-, rfl⟩ | ⟨h0, -⟩
          · cases h0
          · exact pm_s_virt C hR hk hcall hm hd h
          · cases h0
        · have h2 : op = 2 := hko.symm
          subst h2
          rcases hop with ⟨h0, -⟩ | ⟨h0, -⟩ | ⟨-, rfl⟩
          · cases h0
          · cases h0
          · exact pm_s_spec C hR hk hcall hm hd h
        · have h2 : op = 2 := hko.symm
          subst h2
          rcases hop with ⟨h0, -⟩ | ⟨h0, -⟩ | ⟨-, rfl⟩
          · cases h0
          · cases h0
          · exact pm_s_nest C hR hk hcall hm hd h
    · cases h
  · cases h
theorem pm_lnk : pm_tb (.constantLong "JobLayerLaw" 96 4294967295) = true := by decide +kernel
theorem pm_lng_ok {o idx : Nat} {v : Int64} (h : pm_lng o idx = some v) : Cond.constantLong (pm_nm o) idx v ∈ pm_Tl := by
  have h1 := pm_lk_mem h
  rw [List.mem_singleton] at h1
  cases h1
  exact pm_in pm_lnk
end PMJ
