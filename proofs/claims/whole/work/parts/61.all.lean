/-! every run of the pure machine is a contract of the machine -/
section PMR2
variable {l : Launch} {g : pm_G}
theorem pm_ent_at : ∀ (a : List pm_V) (off i : Nat) (v : pm_V), (pm_ent a)[i]? = some (some v) → (off + i, pm_cv g v) ∈ lv_args off (a.map (pm_cv g))
  | [], _, _, _, h => by simp [pm_ent] at h
  | w :: a, off, i, v, h => by
    unfold pm_ent at h
    rw [List.map_cons]
    unfold lv_args
    rw [pm_cat_cv]
    split at h
    · rename_i hc
      rw [if_pos hc]
      rcases i with _ | _ | i
      · simp at h
        subst h
        exact List.mem_cons_self
      · simp at h
      · simp at h
        have := pm_ent_at a (off + 2) i v h
        refine List.mem_cons_of_mem _ ?_
        rw [show off + (i + 1 + 1) = off + 2 + i by omega]
        exact this
    · rename_i hc
      rw [if_neg hc]
      rcases i with _ | i
      · simp at h
        subst h
        exact List.mem_cons_self
      · simp at h
        have := pm_ent_at a (off + 1) i v h
        refine List.mem_cons_of_mem _ ?_
        rw [show off + (i + 1) = off + 1 + i by omega]
        exact this
theorem pm_ent_len : ∀ a : List pm_V, (lg_sl (a.map (pm_cv g))).length = (pm_ent a).length
  | [] => rfl
  | w :: a => by
    have ih := pm_ent_len a
    unfold pm_ent
    rw [List.map_cons]
    have e : lg_sl (pm_cv g w :: a.map (pm_cv g)) = (if (pm_cv g w).category = 2 then [Slot.val (pm_cv g w), .second] else [Slot.val (pm_cv g w)]) ++ lg_sl (a.map (pm_cv g)) := List.flatMap_cons
    rw [e, pm_cat_cv, List.length_append, ih]
    by_cases hc : pm_cat w = 2
    · rw [if_pos hc, if_pos hc]; simp; omega
    · rw [if_neg hc, if_neg hc]; simp; omega
theorem pm_entry (a : List pm_V) {n : Nat} (h : (pm_ent a).length ≤ n) : pm_LR g (pm_ent a ++ List.replicate (n - (pm_ent a).length) none) ((lg_sl (a.map (pm_cv g)) ++ List.replicate (n - (lg_sl (a.map (pm_cv g))).length) Slot.unset).toArray) := by
  obtain ⟨h1, h2, h3⟩ := lv_entry (a.map (pm_cv g)) (n := n) (by rw [pm_ent_len]; exact h)
  refine ⟨by rw [h1]; simp; omega, h2, fun i v hv => ?_⟩
  by_cases hi : i < (pm_ent a).length
  · rw [List.getElem?_append_left hi] at hv
    have := pm_ent_at (g := g) a 0 i v hv
    rw [Nat.zero_add] at this
    exact h3 _ this
  · rw [List.getElem?_append_right (by omega)] at hv
    rw [List.getElem?_replicate] at hv
    split at hv <;> cases hv
theorem pm_inin : ∀ mj, mj < 146 → pm_ini mj = true → (pm_y mj).name = "<init>" := by decide +kernel
/-- what a frame stands on, out of the method's start -/
theorem pm_Cx_of (hl : l.stackTraces = false) {p : Program} {e : Env} {s : State} {m : MethodId} {args : Array Value} {below : List Frame} {meth : Method} {c : Code} {s₁ : State} {mj d : Nat} (hmj : mj < 146) (B : BodyLoose p l (pm_y mj) (headSpec (pm_hw mj :: pm_Tl) (pm_rm d)) (pm_code mj) (pm_maxL mj) (pm_rt mj) e s m args below meth c s₁) (hml : c.maxLocals = pm_maxL mj) (hst : pm_St g s) : pm_Cx p l s m args meth c mj g := by
  have hts := atoms_spec (ws := pm_hw mj :: pm_Tl) B.pre
  obtain ⟨methY, cY, y1, y2, y3, y4, y5, y6, y7, y8⟩ := pm_hw_spec B.named (hts _ List.mem_cons_self)
  cases B.method.symm.trans y1
  have hcode : meth.code = some c := (Stand.of_body B).code
  cases hcode.symm.trans y2
  have hown := findClass_of_methodNamed B.named
  rw [(pm_mrow hmj).2.1] at hown
  exact ⟨B.exec, B.bytes, B.returns, hml, hown, fun w hw => hts w (List.mem_cons_of_mem _ hw), B.notSynchronized, fun h => (name_of_methodNamed B.named B.method).1.trans (pm_inin mj hmj h), y7, hl, hst⟩
theorem pm_le.rfl {M : pm_M} : pm_le M M := ⟨Nat.le_refl _, Nat.le_refl _⟩
theorem pm_call_ok (hl : l.stackTraces = false) (fu : Nat) : ∀ (d mj : Nat) (a : List pm_V) (M : pm_M) (r' : pm_O × pm_M), pm_call fu g.2.2.1 d mj a M = some r' → ∃ d', d = d' + 1 ∧ pm_Ct l g d' mj a M r'
  | 0, _, _, _, _, h => by cases h
  | d + 1, mj, a, M, r', h => by
    refine ⟨d, rfl, ?_⟩
    unfold pm_call at h
    split at h
    · rename_i hc
      obtain ⟨hmj, hlen⟩ := hc
      refine MetFree.of_bodyS (code := pm_code mj) (maxLocals := pm_maxL mj) (ret := pm_rt mj) (pm_mrow hmj).2.2.1 ?_ ?_
      · intro args s m h hn
        obtain ⟨methY, cY, y1, y2, y3, y4, y5, y6, -, -⟩ := pm_hw_spec hn (atoms_spec (ws := pm_hw mj :: pm_Tl) h _ List.mem_cons_self)
        exact ⟨methY, cY, y1, y2, y3, y4, y5, y6⟩
      · intro p e s m args below meth c s₁ B hml hP _
        obtain ⟨rfl, hst, hWd⟩ := hP
        have C := pm_Cx_of hl hmj B hml hst
        have hgo := pm_go_ok (e := e) (R := pm_rm d) (below := below) (M0 := M) C (pm_Rm_ok d) (fun mj a M r' h => pm_call_ok hl fu d mj a M r' h) _ _ _ _ _ h
        have hh0 : s₁.heap = s.heap := by rw [B.state]; rfl
        have hLlen : (pm_ent a ++ List.replicate (pm_maxL mj - (pm_ent a).length) none).length = c.maxLocals := by
          rw [hml]; simp; omega
        have w := hgo pm_le.rfl _ s.heap [] (pm_entry a hlen) hLlen hWd va_S.rf
        rw [Nat.sub_self, Nat.sub_self] at w
        have X := Stand.of_body B
        obtain ⟨t, a1, oc, b1, b2, b3⟩ := w s₁ hh0 X
        refine ⟨t, oc, ?_, b1, b2, b3⟩
        rw [lg_entry_eq]
        exact a1
    · cases h
end PMR2
