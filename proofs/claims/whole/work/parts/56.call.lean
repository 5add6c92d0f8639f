/-! calls of the program's own methods -/
section PMV
variable {p : Program} {l : Launch} {e : Env} {R : Room} {s : State} {m : MethodId} {args : Array Value} {below : List Frame} {meth : Method} {c : Code} {Q : State → Prop}
variable {g : pm_G} {M0 : pm_M} {r : pm_O × pm_M} {k : Nat → pm_L → List pm_V → pm_M → pm_R} {pc mi d : Nat} {L : pm_L} {S : List pm_V} {M : pm_M}
theorem pm_No.moved {u U : State} (hvm : u.vm.Alike U.vm) (h : pm_No u) : pm_No U := by
  obtain ⟨a, b, h1, h2, h3, h4⟩ := h
  exact ⟨a, b, by rw [hvm.findClass]; exact h1, by rw [hvm.findClass]; exact h2, by rw [hvm.assignable]; exact h3, by rw [hvm.assignable]; exact h4⟩
theorem pm_St.moved {U : State} {locs : List Loc} (hst : pm_St g s) (hvm : s.vm.Alike U.vm) (hsz : g.1 ≤ U.heap.size) (hS : va_S (pm_A g) s.heap U.heap locs) : pm_St g U :=
  ⟨va_K.moved hvm hst.1, hst.2.1, hsz, hst.2.2.2.1.moved hvm (pm_old hst hS), hst.2.2.2.2.1.moved hvm (pm_old hst hS), pm_No.moved hvm hst.2.2.2.2.2⟩
theorem pm_Wd.moved {U : State} {H : Heap} (hvm : s.vm.Alike U.vm) (h : pm_Wd g M s H) : pm_Wd g M U H := ⟨h.1, h.2.1, h.2.2.1, h.2.2.2.1, h.2.2.2.2.1, va_X.moved hvm h.2.2.2.2.2⟩
theorem pm_maxl : ∀ mj, mj < 146 → pm_maxL mj ≤ 9 := by decide +kernel
theorem pm_hw_spec {mj : Nat} {U : State} {a : Array Value} {mk : MethodId} (hn : U.methodNamed? (pm_y mj) = some mk) (h : (pm_hw mj).before a U = true) : ∃ methY cY, U.vm.method? mk = some methY ∧ methY.code = some cY ∧ cY.code = pm_code mj ∧ cY.maxLocals = pm_maxL mj ∧ methY.sig.returnType = pm_rt mj ∧ methY.locks = false ∧
    cY.exceptionTable.toList.map (fun h => (h.startPc, h.endPc, h.handlerPc, h.catchType)) = pm_hnr mj ∧ parseMethodDescriptor (pm_y mj).desc = some methY.sig := by
  unfold pm_hw at h
  split at h
  · rename_i hh
    obtain ⟨methY, cY, h1, h2, h3, h4, h5, h6, h7, h8⟩ := Cond.code_spec hn h
    refine ⟨methY, cY, h1, h2, h3, h4, h5, h6, ?_, h8⟩
    rw [hh]
    have h0 : cY.exceptionTable.size = 0 := by simpa [Array.isEmpty] using h7
    have h9 : cY.exceptionTable.toList = [] := List.eq_nil_of_length_eq_zero (by simpa using h0)
    rw [h9]
    rfl
  · obtain ⟨m9, methY, cY, hn9, h1, h2, h3, h4, h7, h5, h6, h8⟩ := Cond.codeWith_spec h
    cases hn.symm.trans hn9
    exact ⟨methY, cY, h1, h2, h3, h4, h5, h6, h7, h8⟩
/-- a run of the method mj by its contract: the ends -/
theorem pm_run {T : State} {locs : List Loc} {cells slots : Nat} (C : pm_Cx p l s m args meth c mi g) (hR : pm_Rm (d + 1) R) (X : Stand p l e R s m args below meth c T locs cells slots) (hcs : cells ≤ 1000 ∧ slots ≤ 20000) {ls : Array Slot} (hsz : ls.size = c.maxLocals) {t : List pm_V} (hsum : (t.map pm_cat).sum ≤ 8) {ig : Instr} (hd : decode c.code pc = .ok (ig, 3))
    {mj : Nat} {a : List pm_V} {r' : pm_O × pm_M} (hct : pm_Ct l g d mj a M r') (hmj : mj < 146) (hini : Cond.initialized (pm_y mj).cls ∈ pm_Tl) {mk : MethodId} (hn : T.methodNamed? (pm_y mj) = some mk) (hW : pm_Wd g M s T.heap) (hS : va_S (pm_A g) s.heap T.heap locs) :
    ∃ (oc : Outcome) (s₂ T' : State) (L' : List Loc), Steps p.tables e below (doInvoke e (T.setTop (F0 m pc ls (t.map (pm_cv g)))) [] mk (a.map (pm_cv g)).toArray).1 s₂ ∧ pm_out g r'.1 s oc s₂ ∧ T'.heap = s₂.heap ∧ pm_Wd g r'.2 s T'.heap ∧ va_S (pm_A g) s.heap T'.heap (locs ++ L') ∧ pm_le M r'.2 ∧
      Stand p l e R s m args below meth c T' (locs ++ L') (cells + (pm_cb r'.2 - pm_cb M)) (slots + (pm_sb r'.2 - pm_sb M)) ∧
      ((∃ v, oc = .returned v ∧ s₂ = T'.setTop (F0 m (pc + 3) ls (v.toList ++ t.map (pm_cv g)))) ∨ ∃ x, oc = .threw x ∧ s₂ = (T'.setTop (F0 m pc ls (t.map (pm_cv g)))).pushFrame (.throwing x)) := by
  have hst := C.2.2.2.2.2.2.2.2.2.2
  have hts := C.2.2.2.2.2.1
  have hwords : ∀ w ∈ pm_Tl, ∀ a', w.before a' T = true := fun w hw a' => pm_warm (List.mem_filter.mp hw).2 X.warmed (hts w hw)
  have hhw : pm_hw mj ∈ pm_Tl := pm_hw_in hmj
  obtain ⟨methY, cY, y1, y2, y3, y4, y5, y6, y7, y8⟩ := pm_hw_spec (a := #[]) hn (hwords _ hhw _)
  obtain ⟨kY, hkY, -⟩ := className_of_methodNamed hn
  have hinitY : kY.init = .initialized := Cond.initialized_spec (args := #[]) (findClass_of_methodNamed hn) hkY (hwords _ hini _)
  obtain ⟨q1, q2, q3, q4⟩ := hR
  have hml := pm_maxl mj hmj
  have e1 : (pm_rm d).frames = d + 1 := rfl
  have e2 : (pm_rm d).locals = 40 * d + 26 := rfl
  have e3 : (pm_rm d).cells = 1000 * (d + 1) := rfl
  have e4 : (pm_rm d).slots = 20000 * (d + 1) := rfl
  have hsum' : ((F0 m pc ls (t.map (pm_cv g))).stack.map fun v => v.category).sum ≤ 8 := by
    show ((t.map (pm_cv g)).map fun v => v.category).sum ≤ 8
    rw [pm_sum_cv]; exact hsum
  obtain ⟨oc, s₂, st, hend, ho, hWd, hSS, hwm, hle, L', hsame, hL'⟩ := pm_after (g := F0 m pc ls (t.map (pm_cv g))) X rfl hsz hd hct (a := (a.map (pm_cv g)).toArray) hn y1 y2 hkY hinitY (by show (pm_rm d).frames + 1 ≤ _; omega)
    (by show 2 * 0 + _ + (cY.maxLocals + 11) + (pm_rm d).locals ≤ _; rw [y4]; omega) (by show _ + (pm_rm d).cells ≤ _; omega) (by show _ + (pm_rm d).slots ≤ _; omega)
    (atoms_intro fun w hw => by
      rcases List.mem_cons.mp hw with rfl | hw
      · exact hwords _ hhw _
      · exact hwords _ hw _)
    (by
      have hg1 : g.1 ≤ T.heap.size := by have := hW.2.2.2.1; omega
      have h9 : pm_St g T := hst.moved X.warmed.alike hg1 hS
      have h8 : pm_Wd g M T T.heap := hW.moved X.warmed.alike
      exact ⟨rfl, ⟨va_K.moved (u := T) (Vm.Alike.refl T.vm) h9.1, h9.2.1, h9.2.2.1, h9.2.2.2.1.moved (Vm.Alike.refl T.vm) fun _ _ => rfl, h9.2.2.2.2.1.moved (Vm.Alike.refl T.vm) fun _ _ => rfl, h9.2.2.2.2.2⟩, h8.moved (U := T.calling _ mk _) (Vm.Alike.refl T.vm)⟩)
  have hal : (T.calling (F0 m pc ls (t.map (pm_cv g))) mk (a.map (pm_cv g)).toArray).vm.Alike s.vm := X.warmed.alike.symm
  have hfind : ∀ C0, (T.calling (F0 m pc ls (t.map (pm_cv g))) mk (a.map (pm_cv g)).toArray).vm.findClass C0 = s.vm.findClass C0 := fun C0 => X.warmed.alike.findClass _ _
  have hout : pm_out g r'.1 s oc s₂ := by
    revert ho
    unfold pm_out
    split
    · exact fun h => h
    · rintro ⟨a9, ce, h1, h2, h3, h4⟩
      exact ⟨a9, ce, h1, h2, h3, by rw [← hfind]; exact h4⟩
  have hSfull : va_S (pm_A g) s.heap s₂.heap (locs ++ L') := by
    have h1 : T.heap.size ≤ s₂.heap.size := hSS.1
    refine ⟨Nat.le_trans hS.1 h1, fun q hq hA => ?_, fun z hz => ?_⟩
    · have h2 : s₂.heap[q]? = T.heap[q]? := hSS.2.1 q (Nat.lt_of_lt_of_le hq hS.1) hA
      rw [h2]; exact hS.2.1 q hq hA
    · rcases List.mem_append.mp hz with h | h
      · exact hS.2.2 z h
      · exact hL' z h
  cases oc with
  | returned v =>
    obtain ⟨T', X', e5, e6, e7⟩ := pm_came (g := F0 m pc ls (t.map (pm_cv g))) X rfl hd hend hwm hsame
    refine ⟨.returned v, s₂, T', L', st, hout, e5, by rw [e5]; exact hWd.moved hal, by rw [e5]; exact hSfull, hle, X', Or.inl ⟨v, rfl, e7⟩⟩
  | threw x =>
    obtain ⟨T', X', -, -, e7⟩ := X.outOfThrown (g := F0 m pc ls (t.map (pm_cv g))) rfl hend hwm hsame
    have e5 : T'.heap = s₂.heap := by rw [e7]; rfl
    refine ⟨.threw x, s₂, T', L', st, hout, e5, by rw [e5]; exact hWd.moved hal, by rw [e5]; exact hSfull, hle, X', Or.inr ⟨x, rfl, e7⟩⟩
/-- the rows of a table and their exceptions -/
def pm_hok (o : Nat) (a b : Nat × Nat × Nat × Nat) : Bool := decide (a.1 = b.1) && decide (a.2.1 = b.2.1) && decide (a.2.2.1 = b.2.2.1) && pm_tb (.classLink (pm_nm o) a.2.2.2 (pm_exn b.2.2.2)) && decide (a.2.2.2 ≠ 0) && decide (b.2.2.2 < 2)
def pm_hoks (o : Nat) : List (Nat × Nat × Nat × Nat) → List (Nat × Nat × Nat × Nat) → Bool
  | [], [] => true
  | a :: r, b :: r' => pm_hok o a b && pm_hoks o r r'
  | _, _ => false
theorem pm_hcks : ∀ mi, mi < 147 → pm_hoks (pm_own mi) (pm_hnr mi) (pm_hnd mi) = true := by decide +kernel
theorem pm_hnl : ∀ q ∈ pm_hndl, q.1 < 147 := by decide +kernel
theorem pm_hsearch {o x h : Nat} : ∀ (rows : List ExceptionTableEntry) (hs : List (Nat × Nat × Nat × Nat)), pm_hoks o (rows.map fun h => (h.startPc, h.endPc, h.handlerPc, h.catchType)) hs = true → pm_hd hs pc x = some h →
    ∃ pre z rest, rows = pre ++ z :: rest ∧ (∀ y ∈ pre, covers y pc = false ∨ (y.catchType ≠ 0 ∧ ∃ yx, yx ≠ x ∧ yx < 2 ∧ Cond.classLink (pm_nm o) y.catchType (pm_exn yx) ∈ pm_Tl)) ∧ covers z pc = true ∧ z.catchType ≠ 0 ∧ Cond.classLink (pm_nm o) z.catchType (pm_exn x) ∈ pm_Tl ∧ z.handlerPc = h
  | [], [], _, h => by cases h
  | [], _ :: _, hk, _ => by cases hk
  | _ :: _, [], hk, _ => by cases hk
  | z :: rows, b :: hs, hk, h => by
    simp only [List.map_cons, pm_hoks, pm_hok, Bool.and_eq_true, decide_eq_true_eq] at hk
    obtain ⟨⟨⟨⟨⟨⟨a1, a2⟩, a3⟩, a4⟩, a5⟩, a6⟩, hk⟩ := hk
    unfold pm_hd at h
    split at h
    · rename_i hc
      cases h
      refine ⟨[], z, rows, rfl, (fun y hy => by cases hy), ?_, a5, (by rw [← hc.2.2]; exact pm_in a4), a3⟩
      simp only [covers, Bool.and_eq_true, decide_eq_true_eq]
      omega
    · rename_i hc
      obtain ⟨pre, z', rest, e1, e2, e3⟩ := pm_hsearch rows hs hk h
      refine ⟨z :: pre, z', rest, by rw [e1]; rfl, fun y hy => ?_, e3⟩
      rcases List.mem_cons.mp hy with rfl | hy
      · by_cases hcv : covers y pc = true
        · refine Or.inr ⟨a5, b.2.2.2, fun q => hc ?_, a6, pm_in a4⟩
          simp only [covers, Bool.and_eq_true, decide_eq_true_eq] at hcv
          refine ⟨?_, ?_, q⟩ <;> omega
        · exact Or.inl (by simpa using hcv)
      · exact e2 y hy
theorem pm_cst : pm_tb (.castable (pm_exn 0) (pm_exn 0)) = true ∧ pm_tb (.castable (pm_exn 1) (pm_exn 1)) = true := by decide +kernel
theorem pm_not_cast (hno : pm_No s) {x yx : Nat} (hne : yx ≠ x) (h1 : x < 2) (h2 : yx < 2) {a b : ClassId} (ha : s.vm.findClass (pm_exn x) = some a) (hb : s.vm.findClass (pm_exn yx) = some b) : s.vm.assignable a b = false := by
  obtain ⟨c0, c1, e0, e1, n1, n2⟩ := hno
  rcases x with _ | _ | x
  · rcases yx with _ | _ | yx
    · exact absurd rfl hne
    · cases ha.symm.trans e0
      cases hb.symm.trans e1
      exact n1
    · omega
  · rcases yx with _ | _ | yx
    · cases ha.symm.trans e1
      cases hb.symm.trans e0
      exact n2
    · exact absurd rfl hne
    · omega
  · omega
theorem pm_hd_lt {x h : Nat} (hh : pm_hd (pm_hnd mi) pc x = some h) : mi < 147 := by
  unfold pm_hnd at hh
  cases hq : pm_fi mi pm_hndl with
  | none =>
    rw [hq] at hh
    cases hh
  | some q => exact pm_hnl _ (pm_fi_mem hq)
theorem pm_hd_x {x h : Nat} : ∀ {hs : List (Nat × Nat × Nat × Nat)}, (∀ q ∈ hs, q.2.2.2 < 2) → pm_hd hs pc x = some h → x < 2
  | [], _, h => by cases h
  | q :: r, hq, h => by
    unfold pm_hd at h
    split at h
    · rename_i hc
      rw [← hc.2.2]; exact hq q List.mem_cons_self
    · exact pm_hd_x (fun z hz => hq z (List.mem_cons_of_mem _ hz)) h
theorem pm_hlt : ∀ q ∈ pm_hndl, ∀ z ∈ q.2, z.2.2.2 < 2 := by decide +kernel
theorem pm_hnd_lt : ∀ q ∈ pm_hnd mi, q.2.2.2 < 2 := by
  unfold pm_hnd
  cases hq : pm_fi mi pm_hndl with
  | none => exact fun q h => by cases h
  | some q => exact pm_hlt _ (pm_fi_mem hq)
end PMV
