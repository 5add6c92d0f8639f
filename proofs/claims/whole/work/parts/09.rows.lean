/-! where the program's fields, classes and methods lie among the words -/
def pm_tb (w : Cond) : Bool := decide (w ∈ tables_1) && pm_pb w
theorem pm_in {w : Cond} (h : pm_tb w = true) : w ∈ pm_Tl := by
  unfold pm_tb at h
  rw [Bool.and_eq_true, decide_eq_true_eq] at h
  exact List.mem_filter.mpr ⟨List.mem_append_right _ h.1, h.2⟩
def pm_ti (i : Nat) (w : Cond) : Bool := decide (lw_tbl[i]? = some w) && pm_pb w
theorem pm_ini' {i : Nat} {w : Cond} (h : pm_ti i w = true) : w ∈ pm_Tl := by
  unfold pm_ti at h
  rw [Bool.and_eq_true, decide_eq_true_eq] at h
  exact List.mem_filter.mpr ⟨List.mem_of_getElem? h.1, h.2⟩
theorem pm_zip_all {α β : Type} {l : List α} {m : List β} {f : α × β → Bool} (h : (l.zip m).all f = true) (hl : l.length ≤ m.length) {a : α} (ha : a ∈ l) : ∃ b, f (a, b) = true := by
  obtain ⟨i, hi, rfl⟩ := List.getElem_of_mem ha
  refine ⟨m[i], List.all_eq_true.mp h _ ?_⟩
  refine List.mem_of_getElem? (i := i) ?_
  rw [List.getElem?_zip_eq_some]
  exact ⟨List.getElem?_eq_getElem hi, List.getElem?_eq_getElem (by omega)⟩
def pm_isr (t : FieldType) : Bool := match t with
  | .object _ => true
  | .array _ => true
  | _ => false
/-- the code of a field's type and the type -/
def pm_tok (t : Nat) (ty : FieldType) : Bool := (t == 0 && decide (ty = .int)) || (t == 1 && decide (ty = .long)) || (t == 3 && decide (ty = .boolean)) || (t == 2 && pm_isr ty)
def pm_fck (x : (Nat × Nat × Nat × Nat × Nat × Bool) × Nat) : Bool := match pm_K[x.1.2.2.1]? with
  | some (_, T, N) => decide (x.1.2.2.2.1 < N) && decide ((pm_cty x.1.2.2.1)[x.1.2.2.2.1]? = some x.1.2.2.2.2.1) && decide ((T x.1.2.2.2.1).2.2.2 = x.1.2.2.2.2.2) && pm_ti x.2 (Cond.fieldLink (pm_nm x.1.1) x.1.2.1 (T x.1.2.2.2.1).1 (T x.1.2.2.2.1).2.1 (T x.1.2.2.2.1).2.2.1)
  | none => false
theorem pm_fcks : (pm_flds.zip pm_fps).all pm_fck = true := by decide +kernel
theorem pm_fld_ok {o idx ci fk ty : Nat} {fin : Bool} (h : pm_fld o idx = some (ci, fk, ty, fin)) : ∃ (C : String) (T : u_T) (N : Nat), pm_K[ci]? = some (C, T, N) ∧ fk < N ∧ (pm_cty ci)[fk]? = some ty ∧ (T fk).2.2.2 = fin ∧ Cond.fieldLink (pm_nm o) idx (T fk).1 (T fk).2.1 (T fk).2.2.1 ∈ pm_Tl := by
  obtain ⟨b, h1⟩ := pm_zip_all pm_fcks (by decide +kernel) (pm_lk_mem h)
  unfold pm_fck at h1
  dsimp only at h1
  split at h1
  · rename_i C T N hK
    simp only [Bool.and_eq_true, decide_eq_true_eq] at h1
    exact ⟨C, T, N, hK, h1.1.1.1, h1.1.1.2, h1.1.2, pm_ini' h1.2⟩
  · cases h1
def pm_cck (ci : Nat) : Bool := match pm_K[ci]? with
  | some (C, T, N) => (u_ws C T N).all pm_tb && decide (∀ k, k < N → parseFieldDescriptor (T k).2.2.1 = some (pm_kt ci k)) && decide (∀ a, a < N → ∀ b, b < N → a ≠ b → (T a).2.1 ≠ (T b).2.1) && decide ((pm_cty ci).length = N) && decide (C = pm_nm ci) && decide (∀ k, k < N → (T k).1 = C ∧ pm_tok ((pm_cty ci).getD k 9) (pm_kt ci k) = true) && pm_tb (.instantiable C N) && pm_tb (.initialized C)
  | none => true
theorem pm_ccks : ∀ ci, ci < 6 → pm_cck ci = true := by decide +kernel
theorem pm_cl_ok {ci N : Nat} {C : String} {T : u_T} (h : pm_K[ci]? = some (C, T, N)) : (∀ w ∈ u_ws C T N, w ∈ pm_Tl) ∧ (∀ k, k < N → parseFieldDescriptor (T k).2.2.1 = some (pm_kt ci k)) ∧ (∀ a, a < N → ∀ b, b < N → a ≠ b → (T a).2.1 ≠ (T b).2.1) ∧ (pm_cty ci).length = N ∧ C = pm_nm ci ∧ (∀ k, k < N → (T k).1 = C ∧ pm_tok ((pm_cty ci).getD k 9) (pm_kt ci k) = true) ∧ Cond.instantiable C N ∈ pm_Tl ∧ Cond.initialized C ∈ pm_Tl := by
  have hl : ci < 6 := (List.getElem?_eq_some_iff.mp h).1
  have h1 := pm_ccks ci hl
  unfold pm_cck at h1
  rw [h] at h1
  simp only [Bool.and_eq_true, decide_eq_true_eq] at h1
  obtain ⟨⟨⟨⟨⟨⟨⟨a1, a2⟩, a3⟩, a4⟩, a5⟩, a6⟩, a7⟩, a8⟩ := h1
  exact ⟨fun w hw => pm_in (List.all_eq_true.mp a1 w hw), a2, a3, a4, a5, a6, pm_in a7, pm_in a8⟩
theorem pm_shps : pm_fam.all (fun q => q.2.2.1 != 0 || decide (q.2.2.2.2 = pm_cty q.2.2.2.1)) = true := by decide +kernel
theorem pm_shp_obj {ns f ci : Nat} {tys : List Nat} (h : pm_shp ns f = (0, ci, tys)) : f ≠ 99 ∧ tys = pm_cty ci := by
  unfold pm_shp at h
  split at h
  · rename_i q hq
    have h1 := pm_fi_mem hq
    have h2 := List.all_eq_true.mp pm_shps _ h1
    rw [h] at h2
    refine ⟨fun q9 => ?_, by simpa using h2⟩
    have := pm_fam_low _ h1
    simp [q9] at this
  · split at h <;> cases h
theorem pm_shp_99 {ns f : Nat} (h : f ≠ 99) (ns' : Nat) : pm_shp ns f = pm_shp ns' f := by
  unfold pm_shp
  split
  · rfl
  · rw [if_neg h, if_neg h]
/-- the word of a method's code -/
def pm_hw (mi : Nat) : Cond := match pm_hnr mi with
  | [] => .code (pm_y mi) (pm_code mi) (pm_maxL mi) (pm_rt mi)
  | hs => .codeWith (pm_y mi) (pm_code mi) (pm_maxL mi) (pm_rt mi) hs
/-- a link's row -/
def pm_lck (x : (Nat × Nat × Nat × Nat × Nat) × Nat) : Bool := match x.1.2.2.2.2 with
  | 3 => decide (x.1.2.2.2.1 = 1) && pm_ti x.2 (.methodLink (pm_nm x.1.1) x.1.2.1 Lib.objectInit)
  | 4 => decide (x.1.2.2.2.1 = 2) && pm_ti x.2 (.methodLink (pm_nm x.1.1) x.1.2.1 Lib.Math.min.name)
  | 5 => decide (x.1.2.2.1 < 146) && pm_ti x.2 (.methodLinkNest (pm_nm x.1.1) x.1.2.1 (pm_y x.1.2.2.1) "JobLayer")
  | _ => decide (x.1.2.2.1 < 146) && pm_ti x.2 (.methodLink (pm_nm x.1.1) x.1.2.1 (pm_y x.1.2.2.1))
theorem pm_lcks : (pm_mths.zip pm_mps).all pm_lck = true := by decide +kernel
/-- a method's row -/
def pm_mck (mi : Nat) : Bool := match pm_mws[mi]? with
  | some (_, b, _, _) => pm_ti b (.initialized (pm_y mi).cls) && decide ((pm_y mi).cls = pm_nm (pm_mcl mi)) && decide (plainName (pm_y mi).cls = true) && decide ((pm_y mi).cls ≠ "java/lang/invoke/MethodHandle") && decide ((pm_y mi).cls ≠ "java/lang/invoke/VarHandle")
  | none => false
theorem pm_mcks : ∀ mi, mi < 146 → pm_mck mi = true := by decide +kernel
/-- what a kind of call needs of its method -/
def pm_nck (q : Nat × Nat × Nat × Nat × Nat) : Bool := match pm_mws[q.2.2.1]? with
  | some (_, _, c, d) => decide ((parseMethodDescriptor (pm_y q.2.2.1).desc).map (fun z => z.parameters.length + (if q.2.2.2.2 = 0 then 0 else 1)) = some q.2.2.2.1) && (match q.2.2.2.2 with
      | 0 => pm_ti c (.static (pm_y q.2.2.1))
      | 1 => pm_ti c (.instanceMethod (pm_y q.2.2.1)) && pm_ti d (.selects (pm_y q.2.2.1).cls (pm_y q.2.2.1) (pm_y q.2.2.1)) && decide (pm_hnr q.2.2.1 = [])
      | _ => pm_ti c (.instanceMethod (pm_y q.2.2.1)) && decide ((pm_y q.2.2.1).name = "<init>") && decide (pm_hnr q.2.2.1 = []) && decide (pm_rt q.2.2.1 = none))
  | none => decide (q.2.2.2.2 = 3) || decide (q.2.2.2.2 = 4)
theorem pm_ncks : pm_mths.all pm_nck = true := by decide +kernel
theorem pm_oi : pm_tb (.instanceMethod Lib.objectInit) = true ∧ pm_tb (.code Lib.objectInit ⟨#[0xb1]⟩ 1 none) = true := by decide +kernel
theorem pm_mm : pm_tb (.static Lib.Math.min.name) = true ∧ pm_tb (.initialized "java/lang/Math") = true ∧ pm_tb (.code Lib.Math.min.name Lib.Math.min.code 2 (some .int)) = true := by decide +kernel
theorem pm_ar3 : pm_tb (.arrayClass .int) = true ∧ pm_tb (.arrayClass .boolean) = true ∧ pm_tb (.arrayClass .long) = true := by decide +kernel
