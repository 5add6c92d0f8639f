/-! returns, the throw, small calls -/
section PME
variable {p : Program} {l : Launch} {e : Env} {R : Room} {s : State} {m : MethodId} {args : Array Value} {below : List Frame} {meth : Method} {c : Code} {Q : State → Prop}
variable {g : pm_G} {M0 : pm_M} {r : pm_O × pm_M} {k : Nat → pm_L → List pm_V → pm_M → pm_R} {pc mi d : Nat} {L : pm_L} {S : List pm_V} {M : pm_M}
/-- the room of a frame over which d frames of ours may lie -/
def pm_Rm (d : Nat) (R : Room) : Prop := d + 1 ≤ R.frames ∧ 1000 * (d + 1) ≤ R.cells ∧ 20000 * (d + 1) ≤ R.slots ∧ 40 * d + 26 ≤ R.locals
theorem pm_Rm_ok (d : Nat) : pm_Rm d (pm_rm d) := ⟨Nat.le_refl _, Nat.le_refl _, Nat.le_refl _, Nat.le_refl _⟩
theorem pm_fin {H : Heap} {locs : List Loc} (hle : pm_le M0 M) (hW : pm_Wd g M s H) (hS : va_S (pm_A g) s.heap H locs) {o : pm_O} {oc : Outcome} {t : State} (ht : t.heap = H) (hrun : t.status = .running) (hend : Ended t below oc) (hw : s.WarmedH t.vm)
    (hs : s.sameButNew ({ t with vm := s.vm } : State) locs (pm_cb M - pm_cb M0) (pm_sb M - pm_sb M0)) (ho : pm_out g o s oc t) : pm_Q below g M0 (o, M) args s t := by
  subst ht
  exact ⟨oc, hrun, hend, ho, hW, ⟨hS.1, hS.2.1, fun _ h => by cases h⟩, hw, hle, locs, hs, hS.2.2⟩
def pm_rck (mi : Nat) : Bool := match pm_ret mi with
  | 0 => decide (pm_rt mi = some .int)
  | 1 => decide (pm_rt mi = none)
  | 3 => decide (pm_rt mi = some .boolean)
  | 2 => decide (pm_rt mi = some (.object "JobLayer$Task"))
  | _ => false
theorem pm_rcks : ∀ mi, mi < 147 → pm_rck mi = true := by decide +kernel
theorem pm_rc_ok {v : Nat} (h : pm_ret mi = v) (hv : v < 4) : pm_rck mi = true := by
  refine pm_rcks mi (Nat.lt_of_not_le fun q => ?_)
  have hl : pm_ms.length = 147 := by decide +kernel
  have h9 : pm_mi mi = (0, 0, 9, false) := by
    unfold pm_mi
    rw [List.getD_eq_getElem?_getD, List.getElem?_eq_none (by omega)]; rfl
  unfold pm_ret at h
  rw [h9] at h
  have h : 9 = v := h
  omega
theorem pm_s_iret (C : pm_Cx p l s m args meth c mi g) (hd : decode (pm_code mi) pc = .ok (.ireturn, 1))
    (h : (match S with
    | [.inl x] => (match pm_ret mi with
      | 0 => some (Sum.inl (some (pm_i x)), M)
      | 3 => pm_bo x (some (Sum.inl (some (pm_i x)), M))
      | _ => none)
    | _ => none) = some r) : pm_W p l e R s m args below meth c (pm_Q below g M0 r args s) g M0 pc L S M := by
  split at h
  · rename_i x
    split at h
    · rename_i hr
      have h1 := pm_rc_ok hr (by decide)
      unfold pm_rck at h1
      rw [hr] at h1
      have h1 : decide (pm_rt mi = some .int) = true := h1
      rw [decide_eq_true_eq] at h1
      cases h
      intro hle ls H locs hL hlen hW hS
      exact pm_w_iret C.1 C.2.1 (C.2.2.1.trans h1) rfl C.2.2.2.2.2.2.1 (fun t ht hrun hend hw hs => pm_fin hle hW hS ht hrun hend hw hs rfl) hd
    · rename_i hr
      obtain ⟨hb, h⟩ := pm_bo_inv h
      have h1 := pm_rc_ok hr (by decide)
      unfold pm_rck at h1
      rw [hr] at h1
      have h1 : decide (pm_rt mi = some .boolean) = true := h1
      rw [decide_eq_true_eq] at h1
      cases h
      intro hle ls H locs hL hlen hW hS
      exact pm_w_iret C.1 C.2.1 (C.2.2.1.trans h1) (pm_nar_b hb) C.2.2.2.2.2.2.1 (fun t ht hrun hend hw hs => pm_fin hle hW hS ht hrun hend hw hs rfl) hd
    · cases h
  · cases h
theorem pm_s_aret (C : pm_Cx p l s m args meth c mi g) (hd : decode (pm_code mi) pc = .ok (.areturn, 1))
    (h : (match S with
    | [.inr (.inr q)] => if pm_ret mi = 2 then some (Sum.inl (some (pm_a q)), M) else none
    | _ => none) = some r) : pm_W p l e R s m args below meth c (pm_Q below g M0 r args s) g M0 pc L S M := by
  split at h
  · rename_i q
    split at h
    · rename_i hr
      have h1 := pm_rc_ok hr (by decide)
      unfold pm_rck at h1
      rw [hr] at h1
      have h1 : decide (pm_rt mi = some (.object "JobLayer$Task")) = true := h1
      rw [decide_eq_true_eq] at h1
      cases h
      intro hle ls H locs hL hlen hW hS
      exact pm_w_aret C.1 C.2.1 (C.2.2.1.trans h1) (pm_cv_ref g q) C.2.2.2.2.2.2.1 (fun t ht hrun hend hw hs => pm_fin hle hW hS ht hrun hend hw hs rfl) hd
    · cases h
  · cases h
theorem pm_s_vret (C : pm_Cx p l s m args meth c mi g) (hd : decode (pm_code mi) pc = .ok (.return_, 1))
    (h : (match S with
    | [] => if pm_ret mi = 1 then some (Sum.inl none, M) else none
    | _ => none) = some r) : pm_W p l e R s m args below meth c (pm_Q below g M0 r args s) g M0 pc L S M := by
  split at h
  · split at h
    · rename_i hr
      have h1 := pm_rc_ok hr (by decide)
      unfold pm_rck at h1
      rw [hr] at h1
      have h1 : decide (pm_rt mi = none) = true := h1
      rw [decide_eq_true_eq] at h1
      cases h
      intro hle ls H locs hL hlen hW hS
      exact pm_w_vret C.1 C.2.1 (C.2.2.1.trans h1) C.2.2.2.2.2.2.1 (fun t ht hrun hend hw hs => pm_fin hle hW hS ht hrun hend hw hs rfl) hd
    · cases h
  · cases h
theorem pm_old {H : Heap} {locs : List Loc} (hst : pm_St g s) (hS : va_S (pm_A g) s.heap H locs) : ∀ a : Nat, a < g.1 → H[a]? = s.heap[a]? := fun a ha => hS.2.1 a (by have := hst.2.2.1; omega) (fun q => by have := q.1; omega)
theorem pm_hnls : pm_hnrl.map (·.1) = pm_hndl.map (·.1) ∧ ∀ q ∈ pm_hndl, q.2 ≠ [] := by decide +kernel
theorem pm_fi_none {α β : Type} {a : Nat} : ∀ {l : List (Nat × α)} {l' : List (Nat × β)}, l.map (·.1) = l'.map (·.1) → pm_fi a l' = none → pm_fi a l = none
  | [], _, _, _ => rfl
  | q :: r, [], h, _ => by cases h
  | q :: r, q' :: r', h, hn => by
    simp only [List.map_cons, List.cons.injEq] at h
    unfold pm_fi at hn ⊢
    rw [h.1]
    cases hq : (q'.1 == a) with
    | true => rw [hq, cond_true] at hn; cases hn
    | false =>
      rw [hq, cond_false] at hn
      rw [cond_false]
      exact pm_fi_none h.2 hn
theorem pm_hnr_nil (h : pm_hnd mi = []) : pm_hnr mi = [] := by
  unfold pm_hnd at h
  cases hq : pm_fi mi pm_hndl with
  | some q =>
    rw [hq] at h
    exact absurd h (pm_hnls.2 _ (pm_fi_mem hq))
  | none =>
    unfold pm_hnr
    rw [pm_fi_none pm_hnls.1 hq]
    rfl
def pm_nms : List String := ["java/lang/RuntimeException", "java/lang/Exception"]
theorem pm_thck : ∀ x, x < 2 → (Bundle.ownAtoms0 (pm_nm 0) (pm_exi 0 x) (pm_exn x) pm_nms).all (fun w => pm_hp w || (pm_tb w && w.onTables)) = true := by decide +kernel
theorem pm_thfit : Bundle.fit (pm_exn 0) = true ∧ Bundle.fit (pm_exn 1) = true ∧ ∀ n ∈ pm_nms, Bundle.fit n = true := by decide +kernel
theorem pm_exs : ∀ q ∈ pm_clss, (match q.2.2 with
  | .inr x => decide (q.1 = 0) && decide (x < 2)
  | .inl _ => true) = true := by decide +kernel
theorem pm_exin : pm_tb (.initialized (pm_exn 0)) = true ∧ pm_tb (.initialized (pm_exn 1)) = true := by decide +kernel
theorem pm_s_throw (C : pm_Cx p l s m args meth c mi g) (hR : pm_Rm d R) {idx x : Nat} (hcl : pm_cls (pm_own mi) idx = some (.inr x)) (hd : decode (pm_code mi) pc = .ok (.new idx, 3))
    (h : pm_th d mi pc x S M = some r) : pm_W p l e R s m args below meth c (pm_Q below g M0 r args s) g M0 pc L S M := by
  unfold pm_th at h
  split at h
  · rename_i hc
    obtain ⟨h6, hS0, hn, hx6, d3, d4, d7, hnd⟩ := hc
    cases h
    have hex := pm_exs _ (pm_lk_mem hcl)
    simp only [Bool.and_eq_true, decide_eq_true_eq] at hex
    obtain ⟨ho, hx2⟩ := hex
    have hck := List.all_eq_true.mp pm_clck _ (pm_lk_mem hcl)
    have hat := List.all_eq_true.mp (pm_thck x hx2)
    obtain ⟨q1, q2, q3, q4⟩ := hR
    have hS1 : S = [] := List.eq_nil_of_length_eq_zero hS0
    subst hS1
    intro hle ls H locs hL hlen hW hS
    have hst := C.2.2.2.2.2.2.2.2.2.2
    have e1 : pm_cb M = M.2.2.2.1 + M.2.2.2.2 := rfl
    have e2 : pm_sb M = 128 * M.2.2.2.1 + 6 * M.2.2.2.2 := rfl
    have e3 := pm_tot96
    have hnr : c.exceptionTable.toList = [] := by
      have h9 := C.2.2.2.2.2.2.2.2.1
      have h8 : pm_hnr mi = [] := by
        have := pm_hnr_nil hnd
        exact this
      rw [h8] at h9
      exact List.map_eq_nil_iff.mp h9
    have hfit : Bundle.fit (pm_exn x) = true := by
      rcases x with _ | _ | x
      · exact pm_thfit.1
      · exact pm_thfit.2.1
      · omega
    have hini : Cond.initialized (pm_exn x) ∈ pm_Tl := by
      rcases x with _ | _ | x
      · exact pm_in pm_exin.1
      · exact pm_in pm_exin.2
      · omega
    have hown := C.2.2.2.2.1
    rw [ho] at hown d4
    have hck : pm_tb (.classLink (pm_nm (pm_own mi)) idx (pm_exn x)) = true := hck
    rw [ho] at hck
    refine pm_throw (B := g.1) (names := pm_nms) (ik := idx) (ic := pm_exi 0 x) (own := pm_nm 0) (cls := pm_exn x) C.1 C.2.1 C.2.2.2.2.2.2.2.2.2.1 hown hfit pm_thfit.2.2 (C.2.2.2.2.2.1 _ (pm_in hck)) (C.2.2.2.2.2.1 _ hini) (fun w hw => ?_) ⟨rfl, rfl⟩
      (hst.2.2.2.1.moved (Vm.Alike.refl _) (pm_old hst hS)) (hst.2.2.2.2.1.moved (Vm.Alike.refl _) (pm_old hst hS)) (by rw [hL.1, hlen]) hd (pm_dec d3).1 (pm_dec d4).1 (pm_dec d7).1 (fun z hz => by rw [hnr] at hz; cases hz)
      (by show 2 + 3 < R.frames; omega) (by show 0 + (13 * (2 + 1) + 42) ≤ R.locals; omega) (by omega) (by omega) C.2.2.2.2.2.2.1 ?_
    · have h9 := hat w hw
      simp only [Bool.or_eq_true, Bool.and_eq_true] at h9
      rcases h9 with h9 | h9
      · exact Or.inl h9
      · exact Or.inr ⟨h9.2, C.2.2.2.2.2.1 _ (pm_in h9.1)⟩
    · intro t a ce hrun hend hw hz hk hce hcv hcls hsame
      obtain ⟨w1, w2, w3, w4, w5, w6⟩ := hW
      have hle2 : pm_le M0 (M.1, M.2.1, M.2.2.1, M.2.2.2.1, M.2.2.2.2 + 1) := ⟨hle.1, Nat.le_succ_of_le hle.2⟩
      obtain ⟨l1, l2⟩ := hle
      have hlt : ∀ kk, kk < M.2.2.2.1 → g.1 + kk < H.size := fun kk hkk => by omega
      have hwd : pm_Wd g (M.1, M.2.1, M.2.2.1, M.2.2.2.1, M.2.2.2.2 + 1) s t.heap := by
        refine ⟨fun kk hkk => ?_, w2, hx6, Nat.le_trans w4 hz, Or.inl hn, ?_⟩
        · exact va_at.kept (w1 kk hkk) (hk _ (hlt kk hkk))
        · refine w6.kept (hk _ ?_)
          have := hst.2.1
          omega
      refine ⟨.threw a, hrun, hend, ⟨a, ce, rfl, hce, hcv, hcls⟩, hwd, ⟨Nat.le_trans hS.1 hz, fun q h1 h2 => (hk q (Nat.lt_of_lt_of_le h1 hS.1)).trans (hS.2.1 q h1 h2), fun _ h => by cases h⟩, hw, hle2, locs, ?_, hS.2.2⟩
      have c1 : pm_cb (M.1, M.2.1, M.2.2.1, M.2.2.2.1, M.2.2.2.2 + 1) - pm_cb M0 = pm_cb M - pm_cb M0 + 1 := by
        show (M.2.2.2.1 + (M.2.2.2.2 + 1)) - (M0.2.2.2.1 + M0.2.2.2.2) = (M.2.2.2.1 + M.2.2.2.2) - (M0.2.2.2.1 + M0.2.2.2.2) + 1
        omega
      have c2 : pm_sb (M.1, M.2.1, M.2.2.1, M.2.2.2.1, M.2.2.2.2 + 1) - pm_sb M0 = pm_sb M - pm_sb M0 + 6 := by
        show (128 * M.2.2.2.1 + 6 * (M.2.2.2.2 + 1)) - (128 * M0.2.2.2.1 + 6 * M0.2.2.2.2) = (128 * M.2.2.2.1 + 6 * M.2.2.2.2) - (128 * M0.2.2.2.1 + 6 * M0.2.2.2.2) + 6
        omega
      rw [c1, c2]
      exact hsame
  · cases h
end PME
