/-- how long an instruction is -/
def pm_len : Instr → Nat
  | .bipush _ => 2
  | .sipush _ => 3
  | .ldc2_w _ => 3
  | .iload _ => 2
  | .lload _ => 2
  | .aload _ => 2
  | .istore _ => 2
  | .lstore _ => 2
  | .astore _ => 2
  | .iinc _ _ => 3
  | .if_icmp _ _ => 3
  | .ifCond _ _ => 3
  | .ifnull _ => 3
  | .ifnonnull _ => 3
  | .goto _ => 3
  | .getfield _ => 3
  | .putfield _ => 3
  | .new _ => 3
  | .newarray _ => 2
  | .anewarray _ => 3
  | .invokestatic _ => 3
  | .invokevirtual _ => 3
  | .invokespecial _ => 3
  | _ => 1
/-! facts of the tables, decided -/
theorem pm_fi_mem {α : Type} {a : Nat} {v : α} : ∀ {l : List (Nat × α)}, pm_fi a l = some v → (a, v) ∈ l
  | [], h => by cases h
  | q :: r, h => by
    unfold pm_fi at h
    cases hq : (q.1 == a) with
    | true =>
      rw [hq, cond_true] at h
      cases h
      rw [beq_iff_eq] at hq
      rw [← hq]
      exact List.mem_cons_self
    | false =>
      rw [hq, cond_false] at h
      exact List.mem_cons_of_mem _ (pm_fi_mem h)
theorem pm_lk_mem {α : Type} {a b : Nat} {v : α} : ∀ {l : List (Nat × Nat × α)}, pm_lk a b l = some v → (a, b, v) ∈ l
  | [], h => by cases h
  | q :: r, h => by
    unfold pm_lk at h
    cases hq : (q.1 == a && q.2.1 == b) with
    | true =>
      rw [hq, cond_true] at h
      cases h
      rw [Bool.and_eq_true, beq_iff_eq, beq_iff_eq] at hq
      obtain ⟨rfl, rfl⟩ := hq
      exact List.mem_cons_self
    | false =>
      rw [hq, cond_false] at h
      exact List.mem_cons_of_mem _ (pm_lk_mem h)
theorem pm_plan_low : ∀ f, f < 61 → ∀ i, i < pm_cnt f → pm_pidx f i < pm_tot ∧ pm_plan (pm_pidx f i) = (f, i) := by decide +kernel
theorem pm_fam_low : ∀ q ∈ pm_fam, q.1 < 61 := by decide +kernel
theorem pm_plan_ok (f i : Nat) (h : i < pm_cnt f) (hf : f ≠ 99) : pm_pidx f i < pm_tot ∧ pm_plan (pm_pidx f i) = (f, i) := by
  refine pm_plan_low f ?_ i h
  unfold pm_cnt at h
  split at h
  · rename_i q hq
    exact pm_fam_low _ (pm_fi_mem hq)
  · rw [if_neg hf] at h
    cases h
theorem pm_pidx_plan : ∀ k, k < pm_tot → pm_pidx (pm_plan k).1 (pm_plan k).2 = k := by decide +kernel
def pm_isw : Instr → Bool
  | .tableswitch _ _ _ _ => true
  | _ => false
def pm_dok (b : ByteArray) (q : Nat × Instr × Nat) : Bool := decide (decode b q.1 = .ok q.2) && (pm_isw q.2.1 || q.2.2 == pm_len q.2.1)
theorem pm_d0 : ((pm_ll.zip pm_codes).take 45).all (fun p => p.1.all (pm_dok p.2)) = true := by decide +kernel
