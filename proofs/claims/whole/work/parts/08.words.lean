/-! the words: which of them stay true when the tables grow warm; where the program's rows lie among them -/
theorem pm_d3 : ((pm_ll.zip pm_codes).drop 146).all (fun p => p.1.all (pm_dok p.2)) = true := by
  have h : (pm_ll.zip pm_codes).drop 146 = [(pm_q146, code)] := rfl
  rw [h]
  show (pm_q146.all (pm_dok code) && true) = true
  rw [Bool.and_true]
  unfold pm_q146
  simp only [List.all_append, pm_e0, pm_e1, pm_e2, pm_e3, pm_e4, pm_e5, pm_e6, pm_e7, pm_e8, pm_e9, pm_e10, pm_e11, pm_e12, pm_e13, pm_e14, pm_e15, pm_e16, pm_e17, pm_e18, pm_e19, pm_e20, pm_e21, Bool.and_self]
theorem pm_dall : (pm_ll.zip pm_codes).all (fun p => p.1.all (pm_dok p.2)) = true := by
  have h : pm_ll.zip pm_codes = (pm_ll.zip pm_codes).take 45 ++ (((pm_ll.zip pm_codes).drop 45).take 37 ++ (((pm_ll.zip pm_codes).drop 82).take 64 ++ (pm_ll.zip pm_codes).drop 146)) := by
    have h1 : (pm_ll.zip pm_codes).drop 82 = ((pm_ll.zip pm_codes).drop 45).drop 37 := by rw [List.drop_drop]
    have h2 : (pm_ll.zip pm_codes).drop 146 = ((pm_ll.zip pm_codes).drop 82).drop 64 := by rw [List.drop_drop]
    rw [h2, List.take_append_drop, h1, List.take_append_drop, List.take_append_drop]
  rw [h, List.all_append, List.all_append, List.all_append, pm_d0, pm_d1, pm_d2, pm_d3]
  rfl
theorem pm_dec {mi pc n : Nat} {i : Instr} (h : pm_tbl mi pc = some (i, n)) : decode (pm_code mi) pc = .ok (i, n) ∧ (pm_isw i = true ∨ n = pm_len i) := by
  have hm := pm_fi_mem h
  by_cases hlt : mi < 147
  · have hz : (pm_ll.zip pm_codes)[mi]? = some (pm_list mi, pm_code mi) := by
      have hl1 : pm_ll.length = 147 := by decide +kernel
      have hl2 : pm_codes.length = 147 := by decide +kernel
      rw [List.getElem?_zip_eq_some]
      refine ⟨?_, ?_⟩
      · unfold pm_list
        rw [List.getD_eq_getElem?_getD, List.getElem?_eq_getElem (by omega)]; rfl
      · unfold pm_code
        rw [List.getD_eq_getElem?_getD, List.getElem?_eq_getElem (by omega)]; rfl
    have h1 := List.all_eq_true.mp pm_dall _ (List.mem_of_getElem? hz)
    have h2 := List.all_eq_true.mp h1 _ hm
    simp only [pm_dok, Bool.and_eq_true, Bool.or_eq_true, decide_eq_true_eq, beq_iff_eq] at h2
    exact h2
  · have hl1 : pm_ll.length = 147 := by decide +kernel
    have h0 : pm_list mi = [] := by
      unfold pm_list
      rw [List.getD_eq_getElem?_getD, List.getElem?_eq_none (by omega)]; rfl
    rw [h0] at hm
    cases hm
def pm_pc : Cond → Bool
  | .castable _ _ => true
  | .methodLinkNest _ _ _ _ => true
  | .arrayOver (.object _) => true
  | .declares _ => true
  | _ => false
def pm_pb (w : Cond) : Bool := goodWord w || pm_pc w
def pm_Tl : List Cond := lw_tbl.filter pm_pb
theorem pm_warm {w : Cond} (h : pm_pb w = true) {args a' : Array Value} {s U : State} (hW : s.WarmedH U.vm) (hb : w.before args s = true) : w.before a' U = true := by
  unfold pm_pb at h
  rw [Bool.or_eq_true] at h
  rcases h with h | h
  · exact word_at hW (good_of_word h) hb
  · match w, h, hb with
    | .methodLinkNest _ _ _ _, _, hb => exact va_Nw.use rfl (va_Nw.warmM hW (va_Nw.of rfl hb))
    | .castable _ _, _, hb =>
      simp only [Cond.before, Cond.holds, Cond.value, hW.alike.findClass, hW.alike.assignable] at hb ⊢
      exact hb
    | .declares y, _, hb =>
      have h1 : (Cond.declares y).before args (s.setVm U.vm) = true := by rw [Cond.declares_setVm hW.alike]; exact hb
      exact va_tabs rfl (rfl : (s.setVm U.vm).vm = U.vm) h1
    | .arrayOver (.object C), _, hb => exact va_AO.use (va_AO.moved hW.alike (va_AO.of hb))
