/-! THE PURE MACHINE IS SOUND -/
section PMT
variable {p : Program} {l : Launch} {e : Env} {R : Room} {s : State} {m : MethodId} {args : Array Value} {below : List Frame} {meth : Method} {c : Code}
variable {g : pm_G} {M0 : pm_M} {r : pm_O × pm_M} {k : Nat → pm_L → List pm_V → pm_M → pm_R} {pc mi dd : Nat} {L : pm_L} {S : List pm_V} {M : pm_M} {call : Nat → List pm_V → pm_M → pm_R}
set_option maxHeartbeats 4000000 in
theorem pm_step_ok (C : pm_Cx p l s m args meth c mi g) (hR : pm_Rm dd R) (hk : ∀ pc' L' S' M', k pc' L' S' M' = some r → pm_W p l e R s m args below meth c (pm_Q below g M0 r args s) g M0 pc' L' S' M') (hcall : ∀ mj a M r', call mj a M = some r' → ∃ d, dd = d + 1 ∧ pm_Ct l g d mj a M r') {ins : Instr} {len : Nat} (hd : decode (pm_code mi) pc = .ok (ins, len)) (hlen : pm_isw ins = true ∨ len = pm_len ins)
    (h : pm_step call g.2.2.1 dd mi k ins pc L S M = some r) : pm_W p l e R s m args below meth c (pm_Q below g M0 r args s) g M0 pc L S M := by
  have hx := C.1
  have hb := C.2.1
  have hR2 : 1000 ≤ R.cells ∧ 20000 ≤ R.slots := by
    obtain ⟨q1, q2, q3, q4⟩ := hR
    omega
  have hl : pm_isw ins = false → len = pm_len ins := fun q => by
    rcases hlen with h9 | h9
    · rw [q] at h9; cases h9
    · exact h9
  unfold pm_step at h
  split at h
  · cases hl rfl
    exact pm_s_push hk (n := 1) (v := pm_i (pm_c _)) (fun w => lv_iconst hx hb hd (pm_c_eq _) w) h
  · cases hl rfl
    split at h
    · rename_i hc
      exact pm_s_push hk (n := 2) (v := pm_i (pm_c _)) (fun w => lv_bipush hx hb hd (pm_c8 hc.1 hc.2) w) h
    · cases h
  · cases hl rfl
    split at h
    · rename_i hc
      exact pm_s_push hk (n := 3) (v := pm_i (pm_c _)) (fun w => lv_sipush hx hb hd (pm_c16 hc.1 hc.2) w) h
    · cases h
  · cases hl rfl
    exact pm_s_push hk (n := 1) (v := pm_l (Int64.ofNat _)) (fun w => lv_lconst hx hb hd rfl w) h
  · cases hl rfl
    split at h
    · rename_i v hv
      exact pm_s_push hk (n := 3) (v := pm_l v) (fun w => lv_ldc2 hx hb C.2.2.2.2.1 (C.2.2.2.2.2.1 _ (pm_lng_ok hv)) hd w) h
    · cases h
  · cases hl rfl
    exact pm_s_push hk (n := 1) (v := pm_a none) (fun w => lv_null hx hb hd w) h
  · cases hl rfl
    exact pm_s_ldi hk (n := 1) (fun q w => lv_iload_n hx hb hd rfl q w) h
  · cases hl rfl
    exact pm_s_ldi hk (n := 2) (fun q w => lv_iload hx hb hd q w) h
  · cases hl rfl
    exact pm_s_ldl hk (n := 1) (fun q w => lv_lload_n hx hb hd rfl q w) h
  · cases hl rfl
    exact pm_s_ldl hk (n := 2) (fun q w => lv_lload hx hb hd q w) h
  · cases hl rfl
    exact pm_s_lda hk (n := 1) (fun q1 q2 w => pm_w_aload_n hx hb q1 hd q2 w) h
  · cases hl rfl
    exact pm_s_lda hk (n := 2) (fun q1 q2 w => pm_w_aload hx hb q1 hd q2 w) h
  · cases hl rfl
    exact pm_s_sti hk (n := 1) (fun q w => pm_w_istore_n hx hb hd q w) h
  · cases hl rfl
    exact pm_s_sti hk (n := 2) (fun q w => pm_w_istore hx hb hd q w) h
  · cases hl rfl
    exact pm_s_sta hk (n := 1) (by intro _ _ _ _ _ _ _ q1 _ q2 w; exact pm_w_astore_n hx hb q1 hd q2 w) h
  · cases hl rfl
    exact pm_s_sta hk (n := 2) (by intro _ _ _ _ _ _ _ q1 _ q2 w; exact pm_w_astore hx hb q1 hd q2 w) h
  · cases hl rfl
    exact pm_s_iinc hk (fun q1 q2 w => pm_w_iinc hx hb hd q1 q2 w) h
  · cases hl rfl
    exact pm_s_i2 hk (fun w => lv_iadd hx hb hd w) h
  · cases hl rfl
    exact pm_s_i2 hk (fun w => lv_isub hx hb hd w) h
  · cases hl rfl
    exact pm_s_i2 hk (fun w => lv_imul hx hb hd w) h
  · cases hl rfl
    exact pm_s_i2z hk (fun q w => lv_idiv hx hb hd q w) h
  · cases hl rfl
    exact pm_s_i2z hk (fun q w => lv_irem hx hb hd q w) h
  · cases hl rfl
    exact pm_s_i2 hk (fun w => lv_iand hx hb hd w) h
  · cases hl rfl
    exact pm_s_i2 hk (fun w => lv_ior hx hb hd w) h
  · cases hl rfl
    exact pm_s_i2 hk (fun w => lv_ixor hx hb hd w) h
  · cases hl rfl
    exact pm_s_i2 hk (fun w => lv_ishl hx hb hd w) h
  · cases hl rfl
    exact pm_s_i2 hk (fun w => lv_ishr hx hb hd w) h
  · cases hl rfl
    exact pm_s_i2l hk (fun w => lv_i2l hx hb hd rfl w) h
  · cases hl rfl
    exact pm_s_l2i hk (fun w => lv_l2i hx hb hd rfl w) h
  · cases hl rfl
    exact pm_s_l2 hk (fun w => lv_land hx hb hd w) h
  · cases hl rfl
    exact pm_s_l2 hk (fun w => lv_lor hx hb hd w) h
  · cases hl rfl
    exact pm_s_lc hk (fun w => W.lcmp hx hb hd w) h
  · cases hl rfl
    exact pm_s_li hk (fun w => lv_lshl hx hb hd rfl w) h
  · cases hl rfl
    exact pm_s_li hk (fun w => lv_lshr hx hb hd rfl w) h
  · cases hl rfl
    exact pm_s_li hk (fun w => lv_lushr hx hb hd rfl w) h
  · cases hl rfl
    split at h
    · rename_i v t
      split at h
      · rename_i hc
        intro hle ls H locs hL hlen hW hS
        exact lv_dup hx hb hd (by rw [pm_cat_cv]; exact hc) (hk _ _ _ _ h hle ls H locs hL hlen hW hS)
      · cases h
    · cases h
  · cases hl rfl
    split at h
    · rename_i v w t
      split at h
      · rename_i hc
        intro hle ls H locs hL hlen hW hS
        exact lv_dup2_11 hx hb hd (by rw [pm_cat_cv]; exact hc.1) (by rw [pm_cat_cv]; exact hc.2) (hk _ _ _ _ h hle ls H locs hL hlen hW hS)
      · cases h
    · cases h
  · cases hl rfl
    split at h
    · rename_i v t
      split at h
      · rename_i hc
        intro hle ls H locs hL hlen hW hS
        exact lv_pop hx hb hd (by rw [pm_cat_cv]; exact hc) (hk _ _ _ _ h hle ls H locs hL hlen hW hS)
      · cases h
    · cases h
  · cases hl rfl
    exact pm_s_icmp hk hx hb hd h
  · cases hl rfl
    exact pm_s_if hk hx hb hd h
  · cases hl rfl
    exact pm_s_ifnull hk hx hb hd h
  · cases hl rfl
    exact pm_s_ifnonnull hk hx hb hd h
  · cases hl rfl
    exact pm_s_goto hk hx hb hd h
  · exact pm_s_tsw hk hx hb hd h
  · cases hl rfl
    split at h
    · rename_i q hq
      exact pm_s_getf C hk hq hd h
    · cases h
  · cases hl rfl
    split at h
    · rename_i q hq
      exact pm_s_putf C hk hq hd h
    · cases h
  · cases hl rfl
    exact pm_s_iald C hk hd h
  · cases hl rfl
    exact pm_s_bald C hk hd h
  · cases hl rfl
    exact pm_s_lald C hk hd h
  · cases hl rfl
    exact pm_s_aald C hk hd h
  · cases hl rfl
    exact pm_s_iast C hk hd h
  · cases hl rfl
    exact pm_s_bast C hk hd h
  · cases hl rfl
    exact pm_s_last C hk hd h
  · cases hl rfl
    exact pm_s_aast C hk hd h
  · cases hl rfl
    exact pm_s_alen C hk hd h
  · cases hl rfl
    unfold pm_nw at h
    split at h
    · rename_i ci hq
      exact pm_s_new C hR2 hk hq hd h
    · rename_i x hq
      exact pm_s_throw C hR hq hd h
    · cases h
  · cases hl rfl
    split at h
    · exact pm_s_nai C hR2 hk hd h
    · exact pm_s_nab C hR2 hk hd h
    · exact pm_s_nal C hR2 hk hd h
    · cases h
  · cases hl rfl
    split at h
    · rename_i ci hq
      exact pm_s_naa C hR2 hk hq hd h
    · cases h
  · cases hl rfl
    exact pm_s_inv C hR hk hcall (Or.inl ⟨rfl, rfl⟩) hd h
  · cases hl rfl
    exact pm_s_inv C hR hk hcall (Or.inr (Or.inl ⟨rfl, rfl⟩)) hd h
  · cases hl rfl
    exact pm_s_inv C hR hk hcall (Or.inr (Or.inr ⟨rfl, rfl⟩)) hd h
  · cases hl rfl
    exact pm_s_iret C hd h
  · cases hl rfl
    exact pm_s_aret C hd h
  · cases hl rfl
    exact pm_s_vret C hd h
  · cases h
theorem pm_go_ok (C : pm_Cx p l s m args meth c mi g) (hR : pm_Rm dd R) (hcall : ∀ mj a M r', call mj a M = some r' → ∃ d, dd = d + 1 ∧ pm_Ct l g d mj a M r') : ∀ (n pc : Nat) (L : pm_L) (S : List pm_V) (M : pm_M), pm_go call g.2.2.1 dd mi n pc L S M = some r → pm_W p l e R s m args below meth c (pm_Q below g M0 r args s) g M0 pc L S M
  | 0, _, _, _, _, h => by cases h
  | n + 1, pc, L, S, M, h => by
    unfold pm_go at h
    split at h
    · rename_i ins len ht
      obtain ⟨hd, hl⟩ := pm_dec ht
      exact pm_step_ok C hR (fun pc' L' S' M' h' => pm_go_ok C hR hcall n pc' L' S' M' h') hcall hd hl h
    · cases h
end PMT
