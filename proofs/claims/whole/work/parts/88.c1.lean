/-! @87.lw@ the constructors (printed by wip/whole/gen/ctor.py) -/
def B0 : Nat → Nat → Nat → Int64 := fun _ _ _ => 0
theorem zB {f i : Nat} : pm_z B0 f i 0 = B0 := by
  funext a b e
  unfold pm_z B0
  split <;> rfl
theorem uB {f i k : Nat} : pm_u B0 f i k (Int64.ofNat 0) = B0 := by
  funext a b e
  unfold pm_u B0
  split <;> rfl
theorem zF {F : Nat → Nat → Nat → Int32} {f i : Nat} (h : ∀ k, F f i k = nI 0) : pm_z F f i 0 = F := by
  funext a b e
  unfold pm_z
  split
  · rename_i q
    obtain ⟨rfl, rfl⟩ := q
    rw [h]
    rfl
  · rfl
section CT
variable {ns d : Nat} {F : Nat → Nat → Nat → Int32} {R : Nat → Nat → Nat → Option (Nat × Nat)}
theorem k106_0 (hz : ∀ k, F 13 0 k = nI 0) : pE ns (d + 1) 106 [pm_r 13 0] (F, B0, R, 14, 0) (.inl none, (F, B0, R, 14, 0)) := by
  refine en rfl ?_
  refine pW_eq (pc' := 9) (L' := [some (pm_r 13 0)]) (S' := []) (M' := ((pm_u F 13 0 0 (nI 0)), B0, R, 14, 0)) 5 (fun call n => rfl) ?_
  rw [u_id (A := F) (f := 13) (i := 0) (k := 0) (v := nI 0) (hz 0)]
  refine pW_eq (pc' := 14) (L' := [some (pm_r 13 0)]) (S' := []) (M' := ((pm_u F 13 0 1 (nI 0)), B0, R, 14, 0)) 3 (fun call n => rfl) ?_
  rw [u_id (A := F) (f := 13) (i := 0) (k := 1) (v := nI 0) (hz 1)]
  refine pW_eq (pc' := 19) (L' := [some (pm_r 13 0)]) (S' := []) (M' := ((pm_u F 13 0 2 (nI 0)), B0, R, 14, 0)) 3 (fun call n => rfl) ?_
  rw [u_id (A := F) (f := 13) (i := 0) (k := 2) (v := nI 0) (hz 2)]
  refine pW_eq (pc' := 24) (L' := [some (pm_r 13 0)]) (S' := []) (M' := (F, pm_u B0 13 0 3 (Int64.ofNat 0), R, 14, 0)) 3 (fun call n => rfl) ?_
  rw [show pm_u B0 13 0 3 (Int64.ofNat 0) = B0 from uB]
  refine pW_eq (pc' := 29) (L' := [some (pm_r 13 0)]) (S' := []) (M' := ((pm_u F 13 0 4 (nI 0)), B0, R, 14, 0)) 3 (fun call n => rfl) ?_
  rw [u_id (A := F) (f := 13) (i := 0) (k := 4) (v := nI 0) (hz 4)]
  refine pW_eq (pc' := 34) (L' := [some (pm_r 13 0)]) (S' := []) (M' := ((pm_u F 13 0 5 (nI 0)), B0, R, 14, 0)) 3 (fun call n => rfl) ?_
  rw [u_id (A := F) (f := 13) (i := 0) (k := 5) (v := nI 0) (hz 5)]
  refine pW_ret 1 (fun call n => rfl) ?_
  rfl
theorem k106_1 (hz : ∀ k, F 13 1 k = nI 0) : pE ns (d + 1) 106 [pm_r 13 1] (F, B0, R, 20, 0) (.inl none, (F, B0, R, 20, 0)) := by
  refine en rfl ?_
  refine pW_eq (pc' := 9) (L' := [some (pm_r 13 1)]) (S' := []) (M' := ((pm_u F 13 1 0 (nI 0)), B0, R, 20, 0)) 5 (fun call n => rfl) ?_
  rw [u_id (A := F) (f := 13) (i := 1) (k := 0) (v := nI 0) (hz 0)]
  refine pW_eq (pc' := 14) (L' := [some (pm_r 13 1)]) (S' := []) (M' := ((pm_u F 13 1 1 (nI 0)), B0, R, 20, 0)) 3 (fun call n => rfl) ?_
  rw [u_id (A := F) (f := 13) (i := 1) (k := 1) (v := nI 0) (hz 1)]
  refine pW_eq (pc' := 19) (L' := [some (pm_r 13 1)]) (S' := []) (M' := ((pm_u F 13 1 2 (nI 0)), B0, R, 20, 0)) 3 (fun call n => rfl) ?_
  rw [u_id (A := F) (f := 13) (i := 1) (k := 2) (v := nI 0) (hz 2)]
  refine pW_eq (pc' := 24) (L' := [some (pm_r 13 1)]) (S' := []) (M' := (F, pm_u B0 13 1 3 (Int64.ofNat 0), R, 20, 0)) 3 (fun call n => rfl) ?_
  rw [show pm_u B0 13 1 3 (Int64.ofNat 0) = B0 from uB]
  refine pW_eq (pc' := 29) (L' := [some (pm_r 13 1)]) (S' := []) (M' := ((pm_u F 13 1 4 (nI 0)), B0, R, 20, 0)) 3 (fun call n => rfl) ?_
  rw [u_id (A := F) (f := 13) (i := 1) (k := 4) (v := nI 0) (hz 4)]
  refine pW_eq (pc' := 34) (L' := [some (pm_r 13 1)]) (S' := []) (M' := ((pm_u F 13 1 5 (nI 0)), B0, R, 20, 0)) 3 (fun call n => rfl) ?_
  rw [u_id (A := F) (f := 13) (i := 1) (k := 5) (v := nI 0) (hz 5)]
  refine pW_ret 1 (fun call n => rfl) ?_
  rfl
theorem k106_2 (hz : ∀ k, F 13 2 k = nI 0) : pE ns (d + 1) 106 [pm_r 13 2] (F, B0, R, 26, 0) (.inl none, (F, B0, R, 26, 0)) := by
  refine en rfl ?_
  refine pW_eq (pc' := 9) (L' := [some (pm_r 13 2)]) (S' := []) (M' := ((pm_u F 13 2 0 (nI 0)), B0, R, 26, 0)) 5 (fun call n => rfl) ?_
  rw [u_id (A := F) (f := 13) (i := 2) (k := 0) (v := nI 0) (hz 0)]
  refine pW_eq (pc' := 14) (L' := [some (pm_r 13 2)]) (S' := []) (M' := ((pm_u F 13 2 1 (nI 0)), B0, R, 26, 0)) 3 (fun call n => rfl) ?_
  rw [u_id (A := F) (f := 13) (i := 2) (k := 1) (v := nI 0) (hz 1)]
  refine pW_eq (pc' := 19) (L' := [some (pm_r 13 2)]) (S' := []) (M' := ((pm_u F 13 2 2 (nI 0)), B0, R, 26, 0)) 3 (fun call n => rfl) ?_
  rw [u_id (A := F) (f := 13) (i := 2) (k := 2) (v := nI 0) (hz 2)]
  refine pW_eq (pc' := 24) (L' := [some (pm_r 13 2)]) (S' := []) (M' := (F, pm_u B0 13 2 3 (Int64.ofNat 0), R, 26, 0)) 3 (fun call n => rfl) ?_
  rw [show pm_u B0 13 2 3 (Int64.ofNat 0) = B0 from uB]
  refine pW_eq (pc' := 29) (L' := [some (pm_r 13 2)]) (S' := []) (M' := ((pm_u F 13 2 4 (nI 0)), B0, R, 26, 0)) 3 (fun call n => rfl) ?_
  rw [u_id (A := F) (f := 13) (i := 2) (k := 4) (v := nI 0) (hz 4)]
  refine pW_eq (pc' := 34) (L' := [some (pm_r 13 2)]) (S' := []) (M' := ((pm_u F 13 2 5 (nI 0)), B0, R, 26, 0)) 3 (fun call n => rfl) ?_
  rw [u_id (A := F) (f := 13) (i := 2) (k := 5) (v := nI 0) (hz 5)]
  refine pW_ret 1 (fun call n => rfl) ?_
  rfl
theorem k106_3 (hz : ∀ k, F 13 3 k = nI 0) : pE ns (d + 1) 106 [pm_r 13 3] (F, B0, R, 32, 0) (.inl none, (F, B0, R, 32, 0)) := by
  refine en rfl ?_
  refine pW_eq (pc' := 9) (L' := [some (pm_r 13 3)]) (S' := []) (M' := ((pm_u F 13 3 0 (nI 0)), B0, R, 32, 0)) 5 (fun call n => rfl) ?_
  rw [u_id (A := F) (f := 13) (i := 3) (k := 0) (v := nI 0) (hz 0)]
  refine pW_eq (pc' := 14) (L' := [some (pm_r 13 3)]) (S' := []) (M' := ((pm_u F 13 3 1 (nI 0)), B0, R, 32, 0)) 3 (fun call n => rfl) ?_
  rw [u_id (A := F) (f := 13) (i := 3) (k := 1) (v := nI 0) (hz 1)]
  refine pW_eq (pc' := 19) (L' := [some (pm_r 13 3)]) (S' := []) (M' := ((pm_u F 13 3 2 (nI 0)), B0, R, 32, 0)) 3 (fun call n => rfl) ?_
  rw [u_id (A := F) (f := 13) (i := 3) (k := 2) (v := nI 0) (hz 2)]
  refine pW_eq (pc' := 24) (L' := [some (pm_r 13 3)]) (S' := []) (M' := (F, pm_u B0 13 3 3 (Int64.ofNat 0), R, 32, 0)) 3 (fun call n => rfl) ?_
  rw [show pm_u B0 13 3 3 (Int64.ofNat 0) = B0 from uB]
  refine pW_eq (pc' := 29) (L' := [some (pm_r 13 3)]) (S' := []) (M' := ((pm_u F 13 3 4 (nI 0)), B0, R, 32, 0)) 3 (fun call n => rfl) ?_
  rw [u_id (A := F) (f := 13) (i := 3) (k := 4) (v := nI 0) (hz 4)]
  refine pW_eq (pc' := 34) (L' := [some (pm_r 13 3)]) (S' := []) (M' := ((pm_u F 13 3 5 (nI 0)), B0, R, 32, 0)) 3 (fun call n => rfl) ?_
  rw [u_id (A := F) (f := 13) (i := 3) (k := 5) (v := nI 0) (hz 5)]
  refine pW_ret 1 (fun call n => rfl) ?_
  rfl
theorem k106_4 (hz : ∀ k, F 13 4 k = nI 0) : pE ns (d + 1) 106 [pm_r 13 4] (F, B0, R, 38, 0) (.inl none, (F, B0, R, 38, 0)) := by
  refine en rfl ?_
  refine pW_eq (pc' := 9) (L' := [some (pm_r 13 4)]) (S' := []) (M' := ((pm_u F 13 4 0 (nI 0)), B0, R, 38, 0)) 5 (fun call n => rfl) ?_
  rw [u_id (A := F) (f := 13) (i := 4) (k := 0) (v := nI 0) (hz 0)]
  refine pW_eq (pc' := 14) (L' := [some (pm_r 13 4)]) (S' := []) (M' := ((pm_u F 13 4 1 (nI 0)), B0, R, 38, 0)) 3 (fun call n => rfl) ?_
  rw [u_id (A := F) (f := 13) (i := 4) (k := 1) (v := nI 0) (hz 1)]
  refine pW_eq (pc' := 19) (L' := [some (pm_r 13 4)]) (S' := []) (M' := ((pm_u F 13 4 2 (nI 0)), B0, R, 38, 0)) 3 (fun call n => rfl) ?_
  rw [u_id (A := F) (f := 13) (i := 4) (k := 2) (v := nI 0) (hz 2)]
  refine pW_eq (pc' := 24) (L' := [some (pm_r 13 4)]) (S' := []) (M' := (F, pm_u B0 13 4 3 (Int64.ofNat 0), R, 38, 0)) 3 (fun call n => rfl) ?_
  rw [show pm_u B0 13 4 3 (Int64.ofNat 0) = B0 from uB]
  refine pW_eq (pc' := 29) (L' := [some (pm_r 13 4)]) (S' := []) (M' := ((pm_u F 13 4 4 (nI 0)), B0, R, 38, 0)) 3 (fun call n => rfl) ?_
  rw [u_id (A := F) (f := 13) (i := 4) (k := 4) (v := nI 0) (hz 4)]
  refine pW_eq (pc' := 34) (L' := [some (pm_r 13 4)]) (S' := []) (M' := ((pm_u F 13 4 5 (nI 0)), B0, R, 38, 0)) 3 (fun call n => rfl) ?_
  rw [u_id (A := F) (f := 13) (i := 4) (k := 5) (v := nI 0) (hz 5)]
  refine pW_ret 1 (fun call n => rfl) ?_
  rfl
theorem k106_5 (hz : ∀ k, F 13 5 k = nI 0) : pE ns (d + 1) 106 [pm_r 13 5] (F, B0, R, 44, 0) (.inl none, (F, B0, R, 44, 0)) := by
  refine en rfl ?_
  refine pW_eq (pc' := 9) (L' := [some (pm_r 13 5)]) (S' := []) (M' := ((pm_u F 13 5 0 (nI 0)), B0, R, 44, 0)) 5 (fun call n => rfl) ?_
  rw [u_id (A := F) (f := 13) (i := 5) (k := 0) (v := nI 0) (hz 0)]
  refine pW_eq (pc' := 14) (L' := [some (pm_r 13 5)]) (S' := []) (M' := ((pm_u F 13 5 1 (nI 0)), B0, R, 44, 0)) 3 (fun call n => rfl) ?_
  rw [u_id (A := F) (f := 13) (i := 5) (k := 1) (v := nI 0) (hz 1)]
  refine pW_eq (pc' := 19) (L' := [some (pm_r 13 5)]) (S' := []) (M' := ((pm_u F 13 5 2 (nI 0)), B0, R, 44, 0)) 3 (fun call n => rfl) ?_
  rw [u_id (A := F) (f := 13) (i := 5) (k := 2) (v := nI 0) (hz 2)]
  refine pW_eq (pc' := 24) (L' := [some (pm_r 13 5)]) (S' := []) (M' := (F, pm_u B0 13 5 3 (Int64.ofNat 0), R, 44, 0)) 3 (fun call n => rfl) ?_
  rw [show pm_u B0 13 5 3 (Int64.ofNat 0) = B0 from uB]
  refine pW_eq (pc' := 29) (L' := [some (pm_r 13 5)]) (S' := []) (M' := ((pm_u F 13 5 4 (nI 0)), B0, R, 44, 0)) 3 (fun call n => rfl) ?_
  rw [u_id (A := F) (f := 13) (i := 5) (k := 4) (v := nI 0) (hz 4)]
  refine pW_eq (pc' := 34) (L' := [some (pm_r 13 5)]) (S' := []) (M' := ((pm_u F 13 5 5 (nI 0)), B0, R, 44, 0)) 3 (fun call n => rfl) ?_
  rw [u_id (A := F) (f := 13) (i := 5) (k := 5) (v := nI 0) (hz 5)]
  refine pW_ret 1 (fun call n => rfl) ?_
  rfl
theorem k106_6 (hz : ∀ k, F 13 6 k = nI 0) : pE ns (d + 1) 106 [pm_r 13 6] (F, B0, R, 50, 0) (.inl none, (F, B0, R, 50, 0)) := by
  refine en rfl ?_
  refine pW_eq (pc' := 9) (L' := [some (pm_r 13 6)]) (S' := []) (M' := ((pm_u F 13 6 0 (nI 0)), B0, R, 50, 0)) 5 (fun call n => rfl) ?_
  rw [u_id (A := F) (f := 13) (i := 6) (k := 0) (v := nI 0) (hz 0)]
  refine pW_eq (pc' := 14) (L' := [some (pm_r 13 6)]) (S' := []) (M' := ((pm_u F 13 6 1 (nI 0)), B0, R, 50, 0)) 3 (fun call n => rfl) ?_
  rw [u_id (A := F) (f := 13) (i := 6) (k := 1) (v := nI 0) (hz 1)]
  refine pW_eq (pc' := 19) (L' := [some (pm_r 13 6)]) (S' := []) (M' := ((pm_u F 13 6 2 (nI 0)), B0, R, 50, 0)) 3 (fun call n => rfl) ?_
  rw [u_id (A := F) (f := 13) (i := 6) (k := 2) (v := nI 0) (hz 2)]
  refine pW_eq (pc' := 24) (L' := [some (pm_r 13 6)]) (S' := []) (M' := (F, pm_u B0 13 6 3 (Int64.ofNat 0), R, 50, 0)) 3 (fun call n => rfl) ?_
  rw [show pm_u B0 13 6 3 (Int64.ofNat 0) = B0 from uB]
  refine pW_eq (pc' := 29) (L' := [some (pm_r 13 6)]) (S' := []) (M' := ((pm_u F 13 6 4 (nI 0)), B0, R, 50, 0)) 3 (fun call n => rfl) ?_
  rw [u_id (A := F) (f := 13) (i := 6) (k := 4) (v := nI 0) (hz 4)]
  refine pW_eq (pc' := 34) (L' := [some (pm_r 13 6)]) (S' := []) (M' := ((pm_u F 13 6 5 (nI 0)), B0, R, 50, 0)) 3 (fun call n => rfl) ?_
  rw [u_id (A := F) (f := 13) (i := 6) (k := 5) (v := nI 0) (hz 5)]
  refine pW_ret 1 (fun call n => rfl) ?_
  rfl
theorem k106_7 (hz : ∀ k, F 13 7 k = nI 0) : pE ns (d + 1) 106 [pm_r 13 7] (F, B0, R, 56, 0) (.inl none, (F, B0, R, 56, 0)) := by
  refine en rfl ?_
  refine pW_eq (pc' := 9) (L' := [some (pm_r 13 7)]) (S' := []) (M' := ((pm_u F 13 7 0 (nI 0)), B0, R, 56, 0)) 5 (fun call n => rfl) ?_
  rw [u_id (A := F) (f := 13) (i := 7) (k := 0) (v := nI 0) (hz 0)]
  refine pW_eq (pc' := 14) (L' := [some (pm_r 13 7)]) (S' := []) (M' := ((pm_u F 13 7 1 (nI 0)), B0, R, 56, 0)) 3 (fun call n => rfl) ?_
  rw [u_id (A := F) (f := 13) (i := 7) (k := 1) (v := nI 0) (hz 1)]
  refine pW_eq (pc' := 19) (L' := [some (pm_r 13 7)]) (S' := []) (M' := ((pm_u F 13 7 2 (nI 0)), B0, R, 56, 0)) 3 (fun call n => rfl) ?_
  rw [u_id (A := F) (f := 13) (i := 7) (k := 2) (v := nI 0) (hz 2)]
  refine pW_eq (pc' := 24) (L' := [some (pm_r 13 7)]) (S' := []) (M' := (F, pm_u B0 13 7 3 (Int64.ofNat 0), R, 56, 0)) 3 (fun call n => rfl) ?_
  rw [show pm_u B0 13 7 3 (Int64.ofNat 0) = B0 from uB]
  refine pW_eq (pc' := 29) (L' := [some (pm_r 13 7)]) (S' := []) (M' := ((pm_u F 13 7 4 (nI 0)), B0, R, 56, 0)) 3 (fun call n => rfl) ?_
  rw [u_id (A := F) (f := 13) (i := 7) (k := 4) (v := nI 0) (hz 4)]
  refine pW_eq (pc' := 34) (L' := [some (pm_r 13 7)]) (S' := []) (M' := ((pm_u F 13 7 5 (nI 0)), B0, R, 56, 0)) 3 (fun call n => rfl) ?_
  rw [u_id (A := F) (f := 13) (i := 7) (k := 5) (v := nI 0) (hz 5)]
  refine pW_ret 1 (fun call n => rfl) ?_
  rfl
def RTs : Nat → (Nat → Nat → Nat → Option (Nat × Nat)) → Nat → Nat → Nat → Option (Nat × Nat)
  | 0, R => (pm_u (pm_z (pm_u (pm_z (pm_u (pm_z (pm_u (pm_z (pm_u (pm_z R 9 0 none) 8 0 1 (some (9, 0))) 10 0 none) 8 0 2 (some (10, 0))) 11 0 none) 8 0 3 (some (11, 0))) 12 0 none) 8 0 4 (some (12, 0))) 13 0 none) 8 0 5 (some (13, 0)))
  | 1, R => (pm_u (pm_z (pm_u (pm_z (pm_u (pm_z (pm_u (pm_z (pm_u (pm_z R 9 1 none) 8 1 1 (some (9, 1))) 10 1 none) 8 1 2 (some (10, 1))) 11 1 none) 8 1 3 (some (11, 1))) 12 1 none) 8 1 4 (some (12, 1))) 13 1 none) 8 1 5 (some (13, 1)))
  | 2, R => (pm_u (pm_z (pm_u (pm_z (pm_u (pm_z (pm_u (pm_z (pm_u (pm_z R 9 2 none) 8 2 1 (some (9, 2))) 10 2 none) 8 2 2 (some (10, 2))) 11 2 none) 8 2 3 (some (11, 2))) 12 2 none) 8 2 4 (some (12, 2))) 13 2 none) 8 2 5 (some (13, 2)))
  | 3, R => (pm_u (pm_z (pm_u (pm_z (pm_u (pm_z (pm_u (pm_z (pm_u (pm_z R 9 3 none) 8 3 1 (some (9, 3))) 10 3 none) 8 3 2 (some (10, 3))) 11 3 none) 8 3 3 (some (11, 3))) 12 3 none) 8 3 4 (some (12, 3))) 13 3 none) 8 3 5 (some (13, 3)))
  | 4, R => (pm_u (pm_z (pm_u (pm_z (pm_u (pm_z (pm_u (pm_z (pm_u (pm_z R 9 4 none) 8 4 1 (some (9, 4))) 10 4 none) 8 4 2 (some (10, 4))) 11 4 none) 8 4 3 (some (11, 4))) 12 4 none) 8 4 4 (some (12, 4))) 13 4 none) 8 4 5 (some (13, 4)))
  | 5, R => (pm_u (pm_z (pm_u (pm_z (pm_u (pm_z (pm_u (pm_z (pm_u (pm_z R 9 5 none) 8 5 1 (some (9, 5))) 10 5 none) 8 5 2 (some (10, 5))) 11 5 none) 8 5 3 (some (11, 5))) 12 5 none) 8 5 4 (some (12, 5))) 13 5 none) 8 5 5 (some (13, 5)))
  | 6, R => (pm_u (pm_z (pm_u (pm_z (pm_u (pm_z (pm_u (pm_z (pm_u (pm_z R 9 6 none) 8 6 1 (some (9, 6))) 10 6 none) 8 6 2 (some (10, 6))) 11 6 none) 8 6 3 (some (11, 6))) 12 6 none) 8 6 4 (some (12, 6))) 13 6 none) 8 6 5 (some (13, 6)))
  | 7, R => (pm_u (pm_z (pm_u (pm_z (pm_u (pm_z (pm_u (pm_z (pm_u (pm_z R 9 7 none) 8 7 1 (some (9, 7))) 10 7 none) 8 7 2 (some (10, 7))) 11 7 none) 8 7 3 (some (11, 7))) 12 7 none) 8 7 4 (some (12, 7))) 13 7 none) 8 7 5 (some (13, 7)))
  | _, R => R
theorem k109_0 (hz : ∀ f k, 8 ≤ f → f ≤ 13 → F f 0 k = nI 0) : pE ns (d + 2) 109 [pm_r 8 0, pm_i (nI 0)] (F, B0, R, 9, 0) (.inl none, ((pm_u F 8 0 7 (-nI 1)), B0, RTs 0 R, 14, 0)) := by
  refine en rfl ?_
  refine pW_eq (pc' := 9) (L' := [some (pm_r 8 0), some (pm_i (nI 0))]) (S' := [pm_r 9 0, pm_r 8 0]) (M' := (pm_z F 9 0 0, pm_z B0 9 0 0, pm_z R 9 0 none, 10, 0)) 5 (fun call n => rfl) ?_
  rw [zF (F := F) (f := 9) (i := 0) (fun k0 => (hz 9 k0 (by decide) (by decide))), zB]
  refine pW_eq (pc' := 12) (L' := [some (pm_r 8 0), some (pm_i (nI 0))]) (S' := []) (M' := (F, B0, (pm_u (pm_z R 9 0 none) 8 0 1 (some (9, 0))), 10, 0)) 1 (fun call n => rfl) ?_
  refine pW_eq (pc' := 17) (L' := [some (pm_r 8 0), some (pm_i (nI 0))]) (S' := [pm_r 10 0, pm_r 8 0]) (M' := (pm_z F 10 0 0, pm_z B0 10 0 0, pm_z (pm_u (pm_z R 9 0 none) 8 0 1 (some (9, 0))) 10 0 none, 11, 0)) 3 (fun call n => rfl) ?_
  rw [zF (F := F) (f := 10) (i := 0) (fun k0 => (hz 10 k0 (by decide) (by decide))), zB]
  refine pW_eq (pc' := 20) (L' := [some (pm_r 8 0), some (pm_i (nI 0))]) (S' := []) (M' := (F, B0, (pm_u (pm_z (pm_u (pm_z R 9 0 none) 8 0 1 (some (9, 0))) 10 0 none) 8 0 2 (some (10, 0))), 11, 0)) 1 (fun call n => rfl) ?_
  refine pW_eq (pc' := 25) (L' := [some (pm_r 8 0), some (pm_i (nI 0))]) (S' := [pm_r 11 0, pm_r 8 0]) (M' := (pm_z F 11 0 0, pm_z B0 11 0 0, pm_z (pm_u (pm_z (pm_u (pm_z R 9 0 none) 8 0 1 (some (9, 0))) 10 0 none) 8 0 2 (some (10, 0))) 11 0 none, 12, 0)) 3 (fun call n => rfl) ?_
  rw [zF (F := F) (f := 11) (i := 0) (fun k0 => (hz 11 k0 (by decide) (by decide))), zB]
  refine pW_eq (pc' := 28) (L' := [some (pm_r 8 0), some (pm_i (nI 0))]) (S' := []) (M' := (F, B0, (pm_u (pm_z (pm_u (pm_z (pm_u (pm_z R 9 0 none) 8 0 1 (some (9, 0))) 10 0 none) 8 0 2 (some (10, 0))) 11 0 none) 8 0 3 (some (11, 0))), 12, 0)) 1 (fun call n => rfl) ?_
  refine pW_eq (pc' := 33) (L' := [some (pm_r 8 0), some (pm_i (nI 0))]) (S' := [pm_r 12 0, pm_r 8 0]) (M' := (pm_z F 12 0 0, pm_z B0 12 0 0, pm_z (pm_u (pm_z (pm_u (pm_z (pm_u (pm_z R 9 0 none) 8 0 1 (some (9, 0))) 10 0 none) 8 0 2 (some (10, 0))) 11 0 none) 8 0 3 (some (11, 0))) 12 0 none, 13, 0)) 3 (fun call n => rfl) ?_
  rw [zF (F := F) (f := 12) (i := 0) (fun k0 => (hz 12 k0 (by decide) (by decide))), zB]
  refine pW_eq (pc' := 36) (L' := [some (pm_r 8 0), some (pm_i (nI 0))]) (S' := []) (M' := (F, B0, (pm_u (pm_z (pm_u (pm_z (pm_u (pm_z (pm_u (pm_z R 9 0 none) 8 0 1 (some (9, 0))) 10 0 none) 8 0 2 (some (10, 0))) 11 0 none) 8 0 3 (some (11, 0))) 12 0 none) 8 0 4 (some (12, 0))), 13, 0)) 1 (fun call n => rfl) ?_
  refine pW_eq (pc' := 40) (L' := [some (pm_r 8 0), some (pm_i (nI 0))]) (S' := [pm_r 13 0, pm_r 8 0]) (M' := (pm_z F 13 0 0, pm_z B0 13 0 0, pm_z (pm_u (pm_z (pm_u (pm_z (pm_u (pm_z (pm_u (pm_z R 9 0 none) 8 0 1 (some (9, 0))) 10 0 none) 8 0 2 (some (10, 0))) 11 0 none) 8 0 3 (some (11, 0))) 12 0 none) 8 0 4 (some (12, 0))) 13 0 none, 14, 0)) 2 (fun call n => rfl) ?_
  rw [zF (F := F) (f := 13) (i := 0) (fun k0 => (hz 13 k0 (by decide) (by decide))), zB]
  refine pW_call (pc' := 41) (r := [pm_r 13 0, pm_r 8 0]) (L' := [some (pm_r 8 0), some (pm_i (nI 0))]) (M' := (F, B0, (pm_z (pm_u (pm_z (pm_u (pm_z (pm_u (pm_z (pm_u (pm_z R 9 0 none) 8 0 1 (some (9, 0))) 10 0 none) 8 0 2 (some (10, 0))) 11 0 none) 8 0 3 (some (11, 0))) 12 0 none) 8 0 4 (some (12, 0))) 13 0 none), 14, 0)) 2 (fun call n => rfl) (k106_0 (d := d) (fun k0 => (hz 13 k0 (by decide) (by decide)))) ?_
  refine pW_eq (pc' := 47) (L' := [some (pm_r 8 0), some (pm_i (nI 0))]) (S' := []) (M' := (F, B0, (pm_u (pm_z (pm_u (pm_z (pm_u (pm_z (pm_u (pm_z (pm_u (pm_z R 9 0 none) 8 0 1 (some (9, 0))) 10 0 none) 8 0 2 (some (10, 0))) 11 0 none) 8 0 3 (some (11, 0))) 12 0 none) 8 0 4 (some (12, 0))) 13 0 none) 8 0 5 (some (13, 0))), 14, 0)) 1 (fun call n => rfl) ?_
  refine pW_eq (pc' := 52) (L' := [some (pm_r 8 0), some (pm_i (nI 0))]) (S' := []) (M' := ((pm_u F 8 0 6 (nI 0)), B0, (pm_u (pm_z (pm_u (pm_z (pm_u (pm_z (pm_u (pm_z (pm_u (pm_z R 9 0 none) 8 0 1 (some (9, 0))) 10 0 none) 8 0 2 (some (10, 0))) 11 0 none) 8 0 3 (some (11, 0))) 12 0 none) 8 0 4 (some (12, 0))) 13 0 none) 8 0 5 (some (13, 0))), 14, 0)) 3 (fun call n => rfl) ?_
  rw [u_id (A := F) (f := 8) (i := 0) (k := 6) (v := nI 0) (hz 8 6 (by decide) (by decide))]
  refine pW_eq (pc' := 57) (L' := [some (pm_r 8 0), some (pm_i (nI 0))]) (S' := []) (M' := ((pm_u F 8 0 7 (-nI 1)), B0, (pm_u (pm_z (pm_u (pm_z (pm_u (pm_z (pm_u (pm_z (pm_u (pm_z R 9 0 none) 8 0 1 (some (9, 0))) 10 0 none) 8 0 2 (some (10, 0))) 11 0 none) 8 0 3 (some (11, 0))) 12 0 none) 8 0 4 (some (12, 0))) 13 0 none) 8 0 5 (some (13, 0))), 14, 0)) 3 (fun call n => rfl) ?_
  refine pW_eq (pc' := 62) (L' := [some (pm_r 8 0), some (pm_i (nI 0))]) (S' := []) (M' := ((pm_u (pm_u F 8 0 7 (-nI 1)) 8 0 8 (nI 0)), B0, (pm_u (pm_z (pm_u (pm_z (pm_u (pm_z (pm_u (pm_z (pm_u (pm_z R 9 0 none) 8 0 1 (some (9, 0))) 10 0 none) 8 0 2 (some (10, 0))) 11 0 none) 8 0 3 (some (11, 0))) 12 0 none) 8 0 4 (some (12, 0))) 13 0 none) 8 0 5 (some (13, 0))), 14, 0)) 3 (fun call n => rfl) ?_
  rw [u_id (A := (pm_u F 8 0 7 (-nI 1))) (f := 8) (i := 0) (k := 8) (v := nI 0) ((u_ne (by omega)).trans (hz 8 8 (by decide) (by decide)))]
  refine pW_eq (pc' := 67) (L' := [some (pm_r 8 0), some (pm_i (nI 0))]) (S' := []) (M' := ((pm_u (pm_u F 8 0 7 (-nI 1)) 8 0 9 (nI 0)), B0, (pm_u (pm_z (pm_u (pm_z (pm_u (pm_z (pm_u (pm_z (pm_u (pm_z R 9 0 none) 8 0 1 (some (9, 0))) 10 0 none) 8 0 2 (some (10, 0))) 11 0 none) 8 0 3 (some (11, 0))) 12 0 none) 8 0 4 (some (12, 0))) 13 0 none) 8 0 5 (some (13, 0))), 14, 0)) 3 (fun call n => rfl) ?_
  rw [u_id (A := (pm_u F 8 0 7 (-nI 1))) (f := 8) (i := 0) (k := 9) (v := nI 0) ((u_ne (by omega)).trans (hz 8 9 (by decide) (by decide)))]
  refine pW_eq (pc' := 72) (L' := [some (pm_r 8 0), some (pm_i (nI 0))]) (S' := []) (M' := ((pm_u (pm_u F 8 0 7 (-nI 1)) 8 0 10 (nI 0)), B0, (pm_u (pm_z (pm_u (pm_z (pm_u (pm_z (pm_u (pm_z (pm_u (pm_z R 9 0 none) 8 0 1 (some (9, 0))) 10 0 none) 8 0 2 (some (10, 0))) 11 0 none) 8 0 3 (some (11, 0))) 12 0 none) 8 0 4 (some (12, 0))) 13 0 none) 8 0 5 (some (13, 0))), 14, 0)) 3 (fun call n => rfl) ?_
  rw [u_id (A := (pm_u F 8 0 7 (-nI 1))) (f := 8) (i := 0) (k := 10) (v := nI 0) ((u_ne (by omega)).trans (hz 8 10 (by decide) (by decide)))]
  refine pW_eq (pc' := 77) (L' := [some (pm_r 8 0), some (pm_i (nI 0))]) (S' := []) (M' := ((pm_u (pm_u F 8 0 7 (-nI 1)) 8 0 11 (nI 0)), B0, (pm_u (pm_z (pm_u (pm_z (pm_u (pm_z (pm_u (pm_z (pm_u (pm_z R 9 0 none) 8 0 1 (some (9, 0))) 10 0 none) 8 0 2 (some (10, 0))) 11 0 none) 8 0 3 (some (11, 0))) 12 0 none) 8 0 4 (some (12, 0))) 13 0 none) 8 0 5 (some (13, 0))), 14, 0)) 3 (fun call n => rfl) ?_
  rw [u_id (A := (pm_u F 8 0 7 (-nI 1))) (f := 8) (i := 0) (k := 11) (v := nI 0) ((u_ne (by omega)).trans (hz 8 11 (by decide) (by decide)))]
  refine pW_eq (pc' := 82) (L' := [some (pm_r 8 0), some (pm_i (nI 0))]) (S' := []) (M' := ((pm_u (pm_u F 8 0 7 (-nI 1)) 8 0 12 (nI 0)), B0, (pm_u (pm_z (pm_u (pm_z (pm_u (pm_z (pm_u (pm_z (pm_u (pm_z R 9 0 none) 8 0 1 (some (9, 0))) 10 0 none) 8 0 2 (some (10, 0))) 11 0 none) 8 0 3 (some (11, 0))) 12 0 none) 8 0 4 (some (12, 0))) 13 0 none) 8 0 5 (some (13, 0))), 14, 0)) 3 (fun call n => rfl) ?_
  rw [u_id (A := (pm_u F 8 0 7 (-nI 1))) (f := 8) (i := 0) (k := 12) (v := nI 0) ((u_ne (by omega)).trans (hz 8 12 (by decide) (by decide)))]
  refine pW_eq (pc' := 87) (L' := [some (pm_r 8 0), some (pm_i (nI 0))]) (S' := []) (M' := ((pm_u (pm_u F 8 0 7 (-nI 1)) 8 0 13 (nI 0)), B0, (pm_u (pm_z (pm_u (pm_z (pm_u (pm_z (pm_u (pm_z (pm_u (pm_z R 9 0 none) 8 0 1 (some (9, 0))) 10 0 none) 8 0 2 (some (10, 0))) 11 0 none) 8 0 3 (some (11, 0))) 12 0 none) 8 0 4 (some (12, 0))) 13 0 none) 8 0 5 (some (13, 0))), 14, 0)) 3 (fun call n => rfl) ?_
  rw [u_id (A := (pm_u F 8 0 7 (-nI 1))) (f := 8) (i := 0) (k := 13) (v := nI 0) ((u_ne (by omega)).trans (hz 8 13 (by decide) (by decide)))]
  refine pW_eq (pc' := 92) (L' := [some (pm_r 8 0), some (pm_i (nI 0))]) (S' := []) (M' := ((pm_u (pm_u F 8 0 7 (-nI 1)) 8 0 14 (nI 0)), B0, (pm_u (pm_z (pm_u (pm_z (pm_u (pm_z (pm_u (pm_z (pm_u (pm_z R 9 0 none) 8 0 1 (some (9, 0))) 10 0 none) 8 0 2 (some (10, 0))) 11 0 none) 8 0 3 (some (11, 0))) 12 0 none) 8 0 4 (some (12, 0))) 13 0 none) 8 0 5 (some (13, 0))), 14, 0)) 3 (fun call n => rfl) ?_
  rw [u_id (A := (pm_u F 8 0 7 (-nI 1))) (f := 8) (i := 0) (k := 14) (v := nI 0) ((u_ne (by omega)).trans (hz 8 14 (by decide) (by decide)))]
  refine pW_eq (pc' := 97) (L' := [some (pm_r 8 0), some (pm_i (nI 0))]) (S' := []) (M' := ((pm_u (pm_u F 8 0 7 (-nI 1)) 8 0 15 (nI 0)), B0, (pm_u (pm_z (pm_u (pm_z (pm_u (pm_z (pm_u (pm_z (pm_u (pm_z R 9 0 none) 8 0 1 (some (9, 0))) 10 0 none) 8 0 2 (some (10, 0))) 11 0 none) 8 0 3 (some (11, 0))) 12 0 none) 8 0 4 (some (12, 0))) 13 0 none) 8 0 5 (some (13, 0))), 14, 0)) 3 (fun call n => rfl) ?_
  rw [u_id (A := (pm_u F 8 0 7 (-nI 1))) (f := 8) (i := 0) (k := 15) (v := nI 0) ((u_ne (by omega)).trans (hz 8 15 (by decide) (by decide)))]
  refine pW_eq (pc' := 102) (L' := [some (pm_r 8 0), some (pm_i (nI 0))]) (S' := []) (M' := ((pm_u (pm_u F 8 0 7 (-nI 1)) 8 0 0 (nI 0)), B0, (pm_u (pm_z (pm_u (pm_z (pm_u (pm_z (pm_u (pm_z (pm_u (pm_z R 9 0 none) 8 0 1 (some (9, 0))) 10 0 none) 8 0 2 (some (10, 0))) 11 0 none) 8 0 3 (some (11, 0))) 12 0 none) 8 0 4 (some (12, 0))) 13 0 none) 8 0 5 (some (13, 0))), 14, 0)) 3 (fun call n => rfl) ?_
  rw [u_id (A := (pm_u F 8 0 7 (-nI 1))) (f := 8) (i := 0) (k := 0) (v := nI 0) ((u_ne (by omega)).trans (hz 8 0 (by decide) (by decide)))]
  refine pW_ret 1 (fun call n => rfl) ?_
  rfl
theorem k109_1 (hz : ∀ f k, 8 ≤ f → f ≤ 13 → F f 1 k = nI 0) : pE ns (d + 2) 109 [pm_r 8 1, pm_i (nI 1)] (F, B0, R, 15, 0) (.inl none, ((pm_u (pm_u F 8 1 7 (-nI 1)) 8 1 0 (nI 1)), B0, RTs 1 R, 20, 0)) := by
  refine en rfl ?_
  refine pW_eq (pc' := 9) (L' := [some (pm_r 8 1), some (pm_i (nI 1))]) (S' := [pm_r 9 1, pm_r 8 1]) (M' := (pm_z F 9 1 0, pm_z B0 9 1 0, pm_z R 9 1 none, 16, 0)) 5 (fun call n => rfl) ?_
  rw [zF (F := F) (f := 9) (i := 1) (fun k0 => (hz 9 k0 (by decide) (by decide))), zB]
  refine pW_eq (pc' := 12) (L' := [some (pm_r 8 1), some (pm_i (nI 1))]) (S' := []) (M' := (F, B0, (pm_u (pm_z R 9 1 none) 8 1 1 (some (9, 1))), 16, 0)) 1 (fun call n => rfl) ?_
  refine pW_eq (pc' := 17) (L' := [some (pm_r 8 1), some (pm_i (nI 1))]) (S' := [pm_r 10 1, pm_r 8 1]) (M' := (pm_z F 10 1 0, pm_z B0 10 1 0, pm_z (pm_u (pm_z R 9 1 none) 8 1 1 (some (9, 1))) 10 1 none, 17, 0)) 3 (fun call n => rfl) ?_
  rw [zF (F := F) (f := 10) (i := 1) (fun k0 => (hz 10 k0 (by decide) (by decide))), zB]
  refine pW_eq (pc' := 20) (L' := [some (pm_r 8 1), some (pm_i (nI 1))]) (S' := []) (M' := (F, B0, (pm_u (pm_z (pm_u (pm_z R 9 1 none) 8 1 1 (some (9, 1))) 10 1 none) 8 1 2 (some (10, 1))), 17, 0)) 1 (fun call n => rfl) ?_
  refine pW_eq (pc' := 25) (L' := [some (pm_r 8 1), some (pm_i (nI 1))]) (S' := [pm_r 11 1, pm_r 8 1]) (M' := (pm_z F 11 1 0, pm_z B0 11 1 0, pm_z (pm_u (pm_z (pm_u (pm_z R 9 1 none) 8 1 1 (some (9, 1))) 10 1 none) 8 1 2 (some (10, 1))) 11 1 none, 18, 0)) 3 (fun call n => rfl) ?_
  rw [zF (F := F) (f := 11) (i := 1) (fun k0 => (hz 11 k0 (by decide) (by decide))), zB]
  refine pW_eq (pc' := 28) (L' := [some (pm_r 8 1), some (pm_i (nI 1))]) (S' := []) (M' := (F, B0, (pm_u (pm_z (pm_u (pm_z (pm_u (pm_z R 9 1 none) 8 1 1 (some (9, 1))) 10 1 none) 8 1 2 (some (10, 1))) 11 1 none) 8 1 3 (some (11, 1))), 18, 0)) 1 (fun call n => rfl) ?_
  refine pW_eq (pc' := 33) (L' := [some (pm_r 8 1), some (pm_i (nI 1))]) (S' := [pm_r 12 1, pm_r 8 1]) (M' := (pm_z F 12 1 0, pm_z B0 12 1 0, pm_z (pm_u (pm_z (pm_u (pm_z (pm_u (pm_z R 9 1 none) 8 1 1 (some (9, 1))) 10 1 none) 8 1 2 (some (10, 1))) 11 1 none) 8 1 3 (some (11, 1))) 12 1 none, 19, 0)) 3 (fun call n => rfl) ?_
  rw [zF (F := F) (f := 12) (i := 1) (fun k0 => (hz 12 k0 (by decide) (by decide))), zB]
  refine pW_eq (pc' := 36) (L' := [some (pm_r 8 1), some (pm_i (nI 1))]) (S' := []) (M' := (F, B0, (pm_u (pm_z (pm_u (pm_z (pm_u (pm_z (pm_u (pm_z R 9 1 none) 8 1 1 (some (9, 1))) 10 1 none) 8 1 2 (some (10, 1))) 11 1 none) 8 1 3 (some (11, 1))) 12 1 none) 8 1 4 (some (12, 1))), 19, 0)) 1 (fun call n => rfl) ?_
  refine pW_eq (pc' := 40) (L' := [some (pm_r 8 1), some (pm_i (nI 1))]) (S' := [pm_r 13 1, pm_r 8 1]) (M' := (pm_z F 13 1 0, pm_z B0 13 1 0, pm_z (pm_u (pm_z (pm_u (pm_z (pm_u (pm_z (pm_u (pm_z R 9 1 none) 8 1 1 (some (9, 1))) 10 1 none) 8 1 2 (some (10, 1))) 11 1 none) 8 1 3 (some (11, 1))) 12 1 none) 8 1 4 (some (12, 1))) 13 1 none, 20, 0)) 2 (fun call n => rfl) ?_
  rw [zF (F := F) (f := 13) (i := 1) (fun k0 => (hz 13 k0 (by decide) (by decide))), zB]
  refine pW_call (pc' := 41) (r := [pm_r 13 1, pm_r 8 1]) (L' := [some (pm_r 8 1), some (pm_i (nI 1))]) (M' := (F, B0, (pm_z (pm_u (pm_z (pm_u (pm_z (pm_u (pm_z (pm_u (pm_z R 9 1 none) 8 1 1 (some (9, 1))) 10 1 none) 8 1 2 (some (10, 1))) 11 1 none) 8 1 3 (some (11, 1))) 12 1 none) 8 1 4 (some (12, 1))) 13 1 none), 20, 0)) 2 (fun call n => rfl) (k106_1 (d := d) (fun k0 => (hz 13 k0 (by decide) (by decide)))) ?_
  refine pW_eq (pc' := 47) (L' := [some (pm_r 8 1), some (pm_i (nI 1))]) (S' := []) (M' := (F, B0, (pm_u (pm_z (pm_u (pm_z (pm_u (pm_z (pm_u (pm_z (pm_u (pm_z R 9 1 none) 8 1 1 (some (9, 1))) 10 1 none) 8 1 2 (some (10, 1))) 11 1 none) 8 1 3 (some (11, 1))) 12 1 none) 8 1 4 (some (12, 1))) 13 1 none) 8 1 5 (some (13, 1))), 20, 0)) 1 (fun call n => rfl) ?_
  refine pW_eq (pc' := 52) (L' := [some (pm_r 8 1), some (pm_i (nI 1))]) (S' := []) (M' := ((pm_u F 8 1 6 (nI 0)), B0, (pm_u (pm_z (pm_u (pm_z (pm_u (pm_z (pm_u (pm_z (pm_u (pm_z R 9 1 none) 8 1 1 (some (9, 1))) 10 1 none) 8 1 2 (some (10, 1))) 11 1 none) 8 1 3 (some (11, 1))) 12 1 none) 8 1 4 (some (12, 1))) 13 1 none) 8 1 5 (some (13, 1))), 20, 0)) 3 (fun call n => rfl) ?_
  rw [u_id (A := F) (f := 8) (i := 1) (k := 6) (v := nI 0) (hz 8 6 (by decide) (by decide))]
  refine pW_eq (pc' := 57) (L' := [some (pm_r 8 1), some (pm_i (nI 1))]) (S' := []) (M' := ((pm_u F 8 1 7 (-nI 1)), B0, (pm_u (pm_z (pm_u (pm_z (pm_u (pm_z (pm_u (pm_z (pm_u (pm_z R 9 1 none) 8 1 1 (some (9, 1))) 10 1 none) 8 1 2 (some (10, 1))) 11 1 none) 8 1 3 (some (11, 1))) 12 1 none) 8 1 4 (some (12, 1))) 13 1 none) 8 1 5 (some (13, 1))), 20, 0)) 3 (fun call n => rfl) ?_
  refine pW_eq (pc' := 62) (L' := [some (pm_r 8 1), some (pm_i (nI 1))]) (S' := []) (M' := ((pm_u (pm_u F 8 1 7 (-nI 1)) 8 1 8 (nI 0)), B0, (pm_u (pm_z (pm_u (pm_z (pm_u (pm_z (pm_u (pm_z (pm_u (pm_z R 9 1 none) 8 1 1 (some (9, 1))) 10 1 none) 8 1 2 (some (10, 1))) 11 1 none) 8 1 3 (some (11, 1))) 12 1 none) 8 1 4 (some (12, 1))) 13 1 none) 8 1 5 (some (13, 1))), 20, 0)) 3 (fun call n => rfl) ?_
  rw [u_id (A := (pm_u F 8 1 7 (-nI 1))) (f := 8) (i := 1) (k := 8) (v := nI 0) ((u_ne (by omega)).trans (hz 8 8 (by decide) (by decide)))]
  refine pW_eq (pc' := 67) (L' := [some (pm_r 8 1), some (pm_i (nI 1))]) (S' := []) (M' := ((pm_u (pm_u F 8 1 7 (-nI 1)) 8 1 9 (nI 0)), B0, (pm_u (pm_z (pm_u (pm_z (pm_u (pm_z (pm_u (pm_z (pm_u (pm_z R 9 1 none) 8 1 1 (some (9, 1))) 10 1 none) 8 1 2 (some (10, 1))) 11 1 none) 8 1 3 (some (11, 1))) 12 1 none) 8 1 4 (some (12, 1))) 13 1 none) 8 1 5 (some (13, 1))), 20, 0)) 3 (fun call n => rfl) ?_
  rw [u_id (A := (pm_u F 8 1 7 (-nI 1))) (f := 8) (i := 1) (k := 9) (v := nI 0) ((u_ne (by omega)).trans (hz 8 9 (by decide) (by decide)))]
  refine pW_eq (pc' := 72) (L' := [some (pm_r 8 1), some (pm_i (nI 1))]) (S' := []) (M' := ((pm_u (pm_u F 8 1 7 (-nI 1)) 8 1 10 (nI 0)), B0, (pm_u (pm_z (pm_u (pm_z (pm_u (pm_z (pm_u (pm_z (pm_u (pm_z R 9 1 none) 8 1 1 (some (9, 1))) 10 1 none) 8 1 2 (some (10, 1))) 11 1 none) 8 1 3 (some (11, 1))) 12 1 none) 8 1 4 (some (12, 1))) 13 1 none) 8 1 5 (some (13, 1))), 20, 0)) 3 (fun call n => rfl) ?_
  rw [u_id (A := (pm_u F 8 1 7 (-nI 1))) (f := 8) (i := 1) (k := 10) (v := nI 0) ((u_ne (by omega)).trans (hz 8 10 (by decide) (by decide)))]
  refine pW_eq (pc' := 77) (L' := [some (pm_r 8 1), some (pm_i (nI 1))]) (S' := []) (M' := ((pm_u (pm_u F 8 1 7 (-nI 1)) 8 1 11 (nI 0)), B0, (pm_u (pm_z (pm_u (pm_z (pm_u (pm_z (pm_u (pm_z (pm_u (pm_z R 9 1 none) 8 1 1 (some (9, 1))) 10 1 none) 8 1 2 (some (10, 1))) 11 1 none) 8 1 3 (some (11, 1))) 12 1 none) 8 1 4 (some (12, 1))) 13 1 none) 8 1 5 (some (13, 1))), 20, 0)) 3 (fun call n => rfl) ?_
  rw [u_id (A := (pm_u F 8 1 7 (-nI 1))) (f := 8) (i := 1) (k := 11) (v := nI 0) ((u_ne (by omega)).trans (hz 8 11 (by decide) (by decide)))]
  refine pW_eq (pc' := 82) (L' := [some (pm_r 8 1), some (pm_i (nI 1))]) (S' := []) (M' := ((pm_u (pm_u F 8 1 7 (-nI 1)) 8 1 12 (nI 0)), B0, (pm_u (pm_z (pm_u (pm_z (pm_u (pm_z (pm_u (pm_z (pm_u (pm_z R 9 1 none) 8 1 1 (some (9, 1))) 10 1 none) 8 1 2 (some (10, 1))) 11 1 none) 8 1 3 (some (11, 1))) 12 1 none) 8 1 4 (some (12, 1))) 13 1 none) 8 1 5 (some (13, 1))), 20, 0)) 3 (fun call n => rfl) ?_
  rw [u_id (A := (pm_u F 8 1 7 (-nI 1))) (f := 8) (i := 1) (k := 12) (v := nI 0) ((u_ne (by omega)).trans (hz 8 12 (by decide) (by decide)))]
  refine pW_eq (pc' := 87) (L' := [some (pm_r 8 1), some (pm_i (nI 1))]) (S' := []) (M' := ((pm_u (pm_u F 8 1 7 (-nI 1)) 8 1 13 (nI 0)), B0, (pm_u (pm_z (pm_u (pm_z (pm_u (pm_z (pm_u (pm_z (pm_u (pm_z R 9 1 none) 8 1 1 (some (9, 1))) 10 1 none) 8 1 2 (some (10, 1))) 11 1 none) 8 1 3 (some (11, 1))) 12 1 none) 8 1 4 (some (12, 1))) 13 1 none) 8 1 5 (some (13, 1))), 20, 0)) 3 (fun call n => rfl) ?_
  rw [u_id (A := (pm_u F 8 1 7 (-nI 1))) (f := 8) (i := 1) (k := 13) (v := nI 0) ((u_ne (by omega)).trans (hz 8 13 (by decide) (by decide)))]
  refine pW_eq (pc' := 92) (L' := [some (pm_r 8 1), some (pm_i (nI 1))]) (S' := []) (M' := ((pm_u (pm_u F 8 1 7 (-nI 1)) 8 1 14 (nI 0)), B0, (pm_u (pm_z (pm_u (pm_z (pm_u (pm_z (pm_u (pm_z (pm_u (pm_z R 9 1 none) 8 1 1 (some (9, 1))) 10 1 none) 8 1 2 (some (10, 1))) 11 1 none) 8 1 3 (some (11, 1))) 12 1 none) 8 1 4 (some (12, 1))) 13 1 none) 8 1 5 (some (13, 1))), 20, 0)) 3 (fun call n => rfl) ?_
  rw [u_id (A := (pm_u F 8 1 7 (-nI 1))) (f := 8) (i := 1) (k := 14) (v := nI 0) ((u_ne (by omega)).trans (hz 8 14 (by decide) (by decide)))]
  refine pW_eq (pc' := 97) (L' := [some (pm_r 8 1), some (pm_i (nI 1))]) (S' := []) (M' := ((pm_u (pm_u F 8 1 7 (-nI 1)) 8 1 15 (nI 0)), B0, (pm_u (pm_z (pm_u (pm_z (pm_u (pm_z (pm_u (pm_z (pm_u (pm_z R 9 1 none) 8 1 1 (some (9, 1))) 10 1 none) 8 1 2 (some (10, 1))) 11 1 none) 8 1 3 (some (11, 1))) 12 1 none) 8 1 4 (some (12, 1))) 13 1 none) 8 1 5 (some (13, 1))), 20, 0)) 3 (fun call n => rfl) ?_
  rw [u_id (A := (pm_u F 8 1 7 (-nI 1))) (f := 8) (i := 1) (k := 15) (v := nI 0) ((u_ne (by omega)).trans (hz 8 15 (by decide) (by decide)))]
  refine pW_eq (pc' := 102) (L' := [some (pm_r 8 1), some (pm_i (nI 1))]) (S' := []) (M' := ((pm_u (pm_u F 8 1 7 (-nI 1)) 8 1 0 (nI 1)), B0, (pm_u (pm_z (pm_u (pm_z (pm_u (pm_z (pm_u (pm_z (pm_u (pm_z R 9 1 none) 8 1 1 (some (9, 1))) 10 1 none) 8 1 2 (some (10, 1))) 11 1 none) 8 1 3 (some (11, 1))) 12 1 none) 8 1 4 (some (12, 1))) 13 1 none) 8 1 5 (some (13, 1))), 20, 0)) 3 (fun call n => rfl) ?_
  refine pW_ret 1 (fun call n => rfl) ?_
  rfl
theorem k109_2 (hz : ∀ f k, 8 ≤ f → f ≤ 13 → F f 2 k = nI 0) : pE ns (d + 2) 109 [pm_r 8 2, pm_i (nI 2)] (F, B0, R, 21, 0) (.inl none, ((pm_u (pm_u F 8 2 7 (-nI 1)) 8 2 0 (nI 2)), B0, RTs 2 R, 26, 0)) := by
  refine en rfl ?_
  refine pW_eq (pc' := 9) (L' := [some (pm_r 8 2), some (pm_i (nI 2))]) (S' := [pm_r 9 2, pm_r 8 2]) (M' := (pm_z F 9 2 0, pm_z B0 9 2 0, pm_z R 9 2 none, 22, 0)) 5 (fun call n => rfl) ?_
  rw [zF (F := F) (f := 9) (i := 2) (fun k0 => (hz 9 k0 (by decide) (by decide))), zB]
  refine pW_eq (pc' := 12) (L' := [some (pm_r 8 2), some (pm_i (nI 2))]) (S' := []) (M' := (F, B0, (pm_u (pm_z R 9 2 none) 8 2 1 (some (9, 2))), 22, 0)) 1 (fun call n => rfl) ?_
  refine pW_eq (pc' := 17) (L' := [some (pm_r 8 2), some (pm_i (nI 2))]) (S' := [pm_r 10 2, pm_r 8 2]) (M' := (pm_z F 10 2 0, pm_z B0 10 2 0, pm_z (pm_u (pm_z R 9 2 none) 8 2 1 (some (9, 2))) 10 2 none, 23, 0)) 3 (fun call n => rfl) ?_
  rw [zF (F := F) (f := 10) (i := 2) (fun k0 => (hz 10 k0 (by decide) (by decide))), zB]
  refine pW_eq (pc' := 20) (L' := [some (pm_r 8 2), some (pm_i (nI 2))]) (S' := []) (M' := (F, B0, (pm_u (pm_z (pm_u (pm_z R 9 2 none) 8 2 1 (some (9, 2))) 10 2 none) 8 2 2 (some (10, 2))), 23, 0)) 1 (fun call n => rfl) ?_
  refine pW_eq (pc' := 25) (L' := [some (pm_r 8 2), some (pm_i (nI 2))]) (S' := [pm_r 11 2, pm_r 8 2]) (M' := (pm_z F 11 2 0, pm_z B0 11 2 0, pm_z (pm_u (pm_z (pm_u (pm_z R 9 2 none) 8 2 1 (some (9, 2))) 10 2 none) 8 2 2 (some (10, 2))) 11 2 none, 24, 0)) 3 (fun call n => rfl) ?_
  rw [zF (F := F) (f := 11) (i := 2) (fun k0 => (hz 11 k0 (by decide) (by decide))), zB]
  refine pW_eq (pc' := 28) (L' := [some (pm_r 8 2), some (pm_i (nI 2))]) (S' := []) (M' := (F, B0, (pm_u (pm_z (pm_u (pm_z (pm_u (pm_z R 9 2 none) 8 2 1 (some (9, 2))) 10 2 none) 8 2 2 (some (10, 2))) 11 2 none) 8 2 3 (some (11, 2))), 24, 0)) 1 (fun call n => rfl) ?_
  refine pW_eq (pc' := 33) (L' := [some (pm_r 8 2), some (pm_i (nI 2))]) (S' := [pm_r 12 2, pm_r 8 2]) (M' := (pm_z F 12 2 0, pm_z B0 12 2 0, pm_z (pm_u (pm_z (pm_u (pm_z (pm_u (pm_z R 9 2 none) 8 2 1 (some (9, 2))) 10 2 none) 8 2 2 (some (10, 2))) 11 2 none) 8 2 3 (some (11, 2))) 12 2 none, 25, 0)) 3 (fun call n => rfl) ?_
  rw [zF (F := F) (f := 12) (i := 2) (fun k0 => (hz 12 k0 (by decide) (by decide))), zB]
  refine pW_eq (pc' := 36) (L' := [some (pm_r 8 2), some (pm_i (nI 2))]) (S' := []) (M' := (F, B0, (pm_u (pm_z (pm_u (pm_z (pm_u (pm_z (pm_u (pm_z R 9 2 none) 8 2 1 (some (9, 2))) 10 2 none) 8 2 2 (some (10, 2))) 11 2 none) 8 2 3 (some (11, 2))) 12 2 none) 8 2 4 (some (12, 2))), 25, 0)) 1 (fun call n => rfl) ?_
  refine pW_eq (pc' := 40) (L' := [some (pm_r 8 2), some (pm_i (nI 2))]) (S' := [pm_r 13 2, pm_r 8 2]) (M' := (pm_z F 13 2 0, pm_z B0 13 2 0, pm_z (pm_u (pm_z (pm_u (pm_z (pm_u (pm_z (pm_u (pm_z R 9 2 none) 8 2 1 (some (9, 2))) 10 2 none) 8 2 2 (some (10, 2))) 11 2 none) 8 2 3 (some (11, 2))) 12 2 none) 8 2 4 (some (12, 2))) 13 2 none, 26, 0)) 2 (fun call n => rfl) ?_
  rw [zF (F := F) (f := 13) (i := 2) (fun k0 => (hz 13 k0 (by decide) (by decide))), zB]
  refine pW_call (pc' := 41) (r := [pm_r 13 2, pm_r 8 2]) (L' := [some (pm_r 8 2), some (pm_i (nI 2))]) (M' := (F, B0, (pm_z (pm_u (pm_z (pm_u (pm_z (pm_u (pm_z (pm_u (pm_z R 9 2 none) 8 2 1 (some (9, 2))) 10 2 none) 8 2 2 (some (10, 2))) 11 2 none) 8 2 3 (some (11, 2))) 12 2 none) 8 2 4 (some (12, 2))) 13 2 none), 26, 0)) 2 (fun call n => rfl) (k106_2 (d := d) (fun k0 => (hz 13 k0 (by decide) (by decide)))) ?_
  refine pW_eq (pc' := 47) (L' := [some (pm_r 8 2), some (pm_i (nI 2))]) (S' := []) (M' := (F, B0, (pm_u (pm_z (pm_u (pm_z (pm_u (pm_z (pm_u (pm_z (pm_u (pm_z R 9 2 none) 8 2 1 (some (9, 2))) 10 2 none) 8 2 2 (some (10, 2))) 11 2 none) 8 2 3 (some (11, 2))) 12 2 none) 8 2 4 (some (12, 2))) 13 2 none) 8 2 5 (some (13, 2))), 26, 0)) 1 (fun call n => rfl) ?_
  refine pW_eq (pc' := 52) (L' := [some (pm_r 8 2), some (pm_i (nI 2))]) (S' := []) (M' := ((pm_u F 8 2 6 (nI 0)), B0, (pm_u (pm_z (pm_u (pm_z (pm_u (pm_z (pm_u (pm_z (pm_u (pm_z R 9 2 none) 8 2 1 (some (9, 2))) 10 2 none) 8 2 2 (some (10, 2))) 11 2 none) 8 2 3 (some (11, 2))) 12 2 none) 8 2 4 (some (12, 2))) 13 2 none) 8 2 5 (some (13, 2))), 26, 0)) 3 (fun call n => rfl) ?_
  rw [u_id (A := F) (f := 8) (i := 2) (k := 6) (v := nI 0) (hz 8 6 (by decide) (by decide))]
  refine pW_eq (pc' := 57) (L' := [some (pm_r 8 2), some (pm_i (nI 2))]) (S' := []) (M' := ((pm_u F 8 2 7 (-nI 1)), B0, (pm_u (pm_z (pm_u (pm_z (pm_u (pm_z (pm_u (pm_z (pm_u (pm_z R 9 2 none) 8 2 1 (some (9, 2))) 10 2 none) 8 2 2 (some (10, 2))) 11 2 none) 8 2 3 (some (11, 2))) 12 2 none) 8 2 4 (some (12, 2))) 13 2 none) 8 2 5 (some (13, 2))), 26, 0)) 3 (fun call n => rfl) ?_
  refine pW_eq (pc' := 62) (L' := [some (pm_r 8 2), some (pm_i (nI 2))]) (S' := []) (M' := ((pm_u (pm_u F 8 2 7 (-nI 1)) 8 2 8 (nI 0)), B0, (pm_u (pm_z (pm_u (pm_z (pm_u (pm_z (pm_u (pm_z (pm_u (pm_z R 9 2 none) 8 2 1 (some (9, 2))) 10 2 none) 8 2 2 (some (10, 2))) 11 2 none) 8 2 3 (some (11, 2))) 12 2 none) 8 2 4 (some (12, 2))) 13 2 none) 8 2 5 (some (13, 2))), 26, 0)) 3 (fun call n => rfl) ?_
  rw [u_id (A := (pm_u F 8 2 7 (-nI 1))) (f := 8) (i := 2) (k := 8) (v := nI 0) ((u_ne (by omega)).trans (hz 8 8 (by decide) (by decide)))]
  refine pW_eq (pc' := 67) (L' := [some (pm_r 8 2), some (pm_i (nI 2))]) (S' := []) (M' := ((pm_u (pm_u F 8 2 7 (-nI 1)) 8 2 9 (nI 0)), B0, (pm_u (pm_z (pm_u (pm_z (pm_u (pm_z (pm_u (pm_z (pm_u (pm_z R 9 2 none) 8 2 1 (some (9, 2))) 10 2 none) 8 2 2 (some (10, 2))) 11 2 none) 8 2 3 (some (11, 2))) 12 2 none) 8 2 4 (some (12, 2))) 13 2 none) 8 2 5 (some (13, 2))), 26, 0)) 3 (fun call n => rfl) ?_
  rw [u_id (A := (pm_u F 8 2 7 (-nI 1))) (f := 8) (i := 2) (k := 9) (v := nI 0) ((u_ne (by omega)).trans (hz 8 9 (by decide) (by decide)))]
  refine pW_eq (pc' := 72) (L' := [some (pm_r 8 2), some (pm_i (nI 2))]) (S' := []) (M' := ((pm_u (pm_u F 8 2 7 (-nI 1)) 8 2 10 (nI 0)), B0, (pm_u (pm_z (pm_u (pm_z (pm_u (pm_z (pm_u (pm_z (pm_u (pm_z R 9 2 none) 8 2 1 (some (9, 2))) 10 2 none) 8 2 2 (some (10, 2))) 11 2 none) 8 2 3 (some (11, 2))) 12 2 none) 8 2 4 (some (12, 2))) 13 2 none) 8 2 5 (some (13, 2))), 26, 0)) 3 (fun call n => rfl) ?_
  rw [u_id (A := (pm_u F 8 2 7 (-nI 1))) (f := 8) (i := 2) (k := 10) (v := nI 0) ((u_ne (by omega)).trans (hz 8 10 (by decide) (by decide)))]
  refine pW_eq (pc' := 77) (L' := [some (pm_r 8 2), some (pm_i (nI 2))]) (S' := []) (M' := ((pm_u (pm_u F 8 2 7 (-nI 1)) 8 2 11 (nI 0)), B0, (pm_u (pm_z (pm_u (pm_z (pm_u (pm_z (pm_u (pm_z (pm_u (pm_z R 9 2 none) 8 2 1 (some (9, 2))) 10 2 none) 8 2 2 (some (10, 2))) 11 2 none) 8 2 3 (some (11, 2))) 12 2 none) 8 2 4 (some (12, 2))) 13 2 none) 8 2 5 (some (13, 2))), 26, 0)) 3 (fun call n => rfl) ?_
  rw [u_id (A := (pm_u F 8 2 7 (-nI 1))) (f := 8) (i := 2) (k := 11) (v := nI 0) ((u_ne (by omega)).trans (hz 8 11 (by decide) (by decide)))]
  refine pW_eq (pc' := 82) (L' := [some (pm_r 8 2), some (pm_i (nI 2))]) (S' := []) (M' := ((pm_u (pm_u F 8 2 7 (-nI 1)) 8 2 12 (nI 0)), B0, (pm_u (pm_z (pm_u (pm_z (pm_u (pm_z (pm_u (pm_z (pm_u (pm_z R 9 2 none) 8 2 1 (some (9, 2))) 10 2 none) 8 2 2 (some (10, 2))) 11 2 none) 8 2 3 (some (11, 2))) 12 2 none) 8 2 4 (some (12, 2))) 13 2 none) 8 2 5 (some (13, 2))), 26, 0)) 3 (fun call n => rfl) ?_
  rw [u_id (A := (pm_u F 8 2 7 (-nI 1))) (f := 8) (i := 2) (k := 12) (v := nI 0) ((u_ne (by omega)).trans (hz 8 12 (by decide) (by decide)))]
  refine pW_eq (pc' := 87) (L' := [some (pm_r 8 2), some (pm_i (nI 2))]) (S' := []) (M' := ((pm_u (pm_u F 8 2 7 (-nI 1)) 8 2 13 (nI 0)), B0, (pm_u (pm_z (pm_u (pm_z (pm_u (pm_z (pm_u (pm_z (pm_u (pm_z R 9 2 none) 8 2 1 (some (9, 2))) 10 2 none) 8 2 2 (some (10, 2))) 11 2 none) 8 2 3 (some (11, 2))) 12 2 none) 8 2 4 (some (12, 2))) 13 2 none) 8 2 5 (some (13, 2))), 26, 0)) 3 (fun call n => rfl) ?_
  rw [u_id (A := (pm_u F 8 2 7 (-nI 1))) (f := 8) (i := 2) (k := 13) (v := nI 0) ((u_ne (by omega)).trans (hz 8 13 (by decide) (by decide)))]
  refine pW_eq (pc' := 92) (L' := [some (pm_r 8 2), some (pm_i (nI 2))]) (S' := []) (M' := ((pm_u (pm_u F 8 2 7 (-nI 1)) 8 2 14 (nI 0)), B0, (pm_u (pm_z (pm_u (pm_z (pm_u (pm_z (pm_u (pm_z (pm_u (pm_z R 9 2 none) 8 2 1 (some (9, 2))) 10 2 none) 8 2 2 (some (10, 2))) 11 2 none) 8 2 3 (some (11, 2))) 12 2 none) 8 2 4 (some (12, 2))) 13 2 none) 8 2 5 (some (13, 2))), 26, 0)) 3 (fun call n => rfl) ?_
  rw [u_id (A := (pm_u F 8 2 7 (-nI 1))) (f := 8) (i := 2) (k := 14) (v := nI 0) ((u_ne (by omega)).trans (hz 8 14 (by decide) (by decide)))]
  refine pW_eq (pc' := 97) (L' := [some (pm_r 8 2), some (pm_i (nI 2))]) (S' := []) (M' := ((pm_u (pm_u F 8 2 7 (-nI 1)) 8 2 15 (nI 0)), B0, (pm_u (pm_z (pm_u (pm_z (pm_u (pm_z (pm_u (pm_z (pm_u (pm_z R 9 2 none) 8 2 1 (some (9, 2))) 10 2 none) 8 2 2 (some (10, 2))) 11 2 none) 8 2 3 (some (11, 2))) 12 2 none) 8 2 4 (some (12, 2))) 13 2 none) 8 2 5 (some (13, 2))), 26, 0)) 3 (fun call n => rfl) ?_
  rw [u_id (A := (pm_u F 8 2 7 (-nI 1))) (f := 8) (i := 2) (k := 15) (v := nI 0) ((u_ne (by omega)).trans (hz 8 15 (by decide) (by decide)))]
  refine pW_eq (pc' := 102) (L' := [some (pm_r 8 2), some (pm_i (nI 2))]) (S' := []) (M' := ((pm_u (pm_u F 8 2 7 (-nI 1)) 8 2 0 (nI 2)), B0, (pm_u (pm_z (pm_u (pm_z (pm_u (pm_z (pm_u (pm_z (pm_u (pm_z R 9 2 none) 8 2 1 (some (9, 2))) 10 2 none) 8 2 2 (some (10, 2))) 11 2 none) 8 2 3 (some (11, 2))) 12 2 none) 8 2 4 (some (12, 2))) 13 2 none) 8 2 5 (some (13, 2))), 26, 0)) 3 (fun call n => rfl) ?_
  refine pW_ret 1 (fun call n => rfl) ?_
  rfl
theorem k109_3 (hz : ∀ f k, 8 ≤ f → f ≤ 13 → F f 3 k = nI 0) : pE ns (d + 2) 109 [pm_r 8 3, pm_i (nI 3)] (F, B0, R, 27, 0) (.inl none, ((pm_u (pm_u F 8 3 7 (-nI 1)) 8 3 0 (nI 3)), B0, RTs 3 R, 32, 0)) := by
  refine en rfl ?_
  refine pW_eq (pc' := 9) (L' := [some (pm_r 8 3), some (pm_i (nI 3))]) (S' := [pm_r 9 3, pm_r 8 3]) (M' := (pm_z F 9 3 0, pm_z B0 9 3 0, pm_z R 9 3 none, 28, 0)) 5 (fun call n => rfl) ?_
  rw [zF (F := F) (f := 9) (i := 3) (fun k0 => (hz 9 k0 (by decide) (by decide))), zB]
  refine pW_eq (pc' := 12) (L' := [some (pm_r 8 3), some (pm_i (nI 3))]) (S' := []) (M' := (F, B0, (pm_u (pm_z R 9 3 none) 8 3 1 (some (9, 3))), 28, 0)) 1 (fun call n => rfl) ?_
  refine pW_eq (pc' := 17) (L' := [some (pm_r 8 3), some (pm_i (nI 3))]) (S' := [pm_r 10 3, pm_r 8 3]) (M' := (pm_z F 10 3 0, pm_z B0 10 3 0, pm_z (pm_u (pm_z R 9 3 none) 8 3 1 (some (9, 3))) 10 3 none, 29, 0)) 3 (fun call n => rfl) ?_
  rw [zF (F := F) (f := 10) (i := 3) (fun k0 => (hz 10 k0 (by decide) (by decide))), zB]
  refine pW_eq (pc' := 20) (L' := [some (pm_r 8 3), some (pm_i (nI 3))]) (S' := []) (M' := (F, B0, (pm_u (pm_z (pm_u (pm_z R 9 3 none) 8 3 1 (some (9, 3))) 10 3 none) 8 3 2 (some (10, 3))), 29, 0)) 1 (fun call n => rfl) ?_
  refine pW_eq (pc' := 25) (L' := [some (pm_r 8 3), some (pm_i (nI 3))]) (S' := [pm_r 11 3, pm_r 8 3]) (M' := (pm_z F 11 3 0, pm_z B0 11 3 0, pm_z (pm_u (pm_z (pm_u (pm_z R 9 3 none) 8 3 1 (some (9, 3))) 10 3 none) 8 3 2 (some (10, 3))) 11 3 none, 30, 0)) 3 (fun call n => rfl) ?_
  rw [zF (F := F) (f := 11) (i := 3) (fun k0 => (hz 11 k0 (by decide) (by decide))), zB]
  refine pW_eq (pc' := 28) (L' := [some (pm_r 8 3), some (pm_i (nI 3))]) (S' := []) (M' := (F, B0, (pm_u (pm_z (pm_u (pm_z (pm_u (pm_z R 9 3 none) 8 3 1 (some (9, 3))) 10 3 none) 8 3 2 (some (10, 3))) 11 3 none) 8 3 3 (some (11, 3))), 30, 0)) 1 (fun call n => rfl) ?_
  refine pW_eq (pc' := 33) (L' := [some (pm_r 8 3), some (pm_i (nI 3))]) (S' := [pm_r 12 3, pm_r 8 3]) (M' := (pm_z F 12 3 0, pm_z B0 12 3 0, pm_z (pm_u (pm_z (pm_u (pm_z (pm_u (pm_z R 9 3 none) 8 3 1 (some (9, 3))) 10 3 none) 8 3 2 (some (10, 3))) 11 3 none) 8 3 3 (some (11, 3))) 12 3 none, 31, 0)) 3 (fun call n => rfl) ?_
  rw [zF (F := F) (f := 12) (i := 3) (fun k0 => (hz 12 k0 (by decide) (by decide))), zB]
  refine pW_eq (pc' := 36) (L' := [some (pm_r 8 3), some (pm_i (nI 3))]) (S' := []) (M' := (F, B0, (pm_u (pm_z (pm_u (pm_z (pm_u (pm_z (pm_u (pm_z R 9 3 none) 8 3 1 (some (9, 3))) 10 3 none) 8 3 2 (some (10, 3))) 11 3 none) 8 3 3 (some (11, 3))) 12 3 none) 8 3 4 (some (12, 3))), 31, 0)) 1 (fun call n => rfl) ?_
  refine pW_eq (pc' := 40) (L' := [some (pm_r 8 3), some (pm_i (nI 3))]) (S' := [pm_r 13 3, pm_r 8 3]) (M' := (pm_z F 13 3 0, pm_z B0 13 3 0, pm_z (pm_u (pm_z (pm_u (pm_z (pm_u (pm_z (pm_u (pm_z R 9 3 none) 8 3 1 (some (9, 3))) 10 3 none) 8 3 2 (some (10, 3))) 11 3 none) 8 3 3 (some (11, 3))) 12 3 none) 8 3 4 (some (12, 3))) 13 3 none, 32, 0)) 2 (fun call n => rfl) ?_
  rw [zF (F := F) (f := 13) (i := 3) (fun k0 => (hz 13 k0 (by decide) (by decide))), zB]
  refine pW_call (pc' := 41) (r := [pm_r 13 3, pm_r 8 3]) (L' := [some (pm_r 8 3), some (pm_i (nI 3))]) (M' := (F, B0, (pm_z (pm_u (pm_z (pm_u (pm_z (pm_u (pm_z (pm_u (pm_z R 9 3 none) 8 3 1 (some (9, 3))) 10 3 none) 8 3 2 (some (10, 3))) 11 3 none) 8 3 3 (some (11, 3))) 12 3 none) 8 3 4 (some (12, 3))) 13 3 none), 32, 0)) 2 (fun call n => rfl) (k106_3 (d := d) (fun k0 => (hz 13 k0 (by decide) (by decide)))) ?_
  refine pW_eq (pc' := 47) (L' := [some (pm_r 8 3), some (pm_i (nI 3))]) (S' := []) (M' := (F, B0, (pm_u (pm_z (pm_u (pm_z (pm_u (pm_z (pm_u (pm_z (pm_u (pm_z R 9 3 none) 8 3 1 (some (9, 3))) 10 3 none) 8 3 2 (some (10, 3))) 11 3 none) 8 3 3 (some (11, 3))) 12 3 none) 8 3 4 (some (12, 3))) 13 3 none) 8 3 5 (some (13, 3))), 32, 0)) 1 (fun call n => rfl) ?_
  refine pW_eq (pc' := 52) (L' := [some (pm_r 8 3), some (pm_i (nI 3))]) (S' := []) (M' := ((pm_u F 8 3 6 (nI 0)), B0, (pm_u (pm_z (pm_u (pm_z (pm_u (pm_z (pm_u (pm_z (pm_u (pm_z R 9 3 none) 8 3 1 (some (9, 3))) 10 3 none) 8 3 2 (some (10, 3))) 11 3 none) 8 3 3 (some (11, 3))) 12 3 none) 8 3 4 (some (12, 3))) 13 3 none) 8 3 5 (some (13, 3))), 32, 0)) 3 (fun call n => rfl) ?_
  rw [u_id (A := F) (f := 8) (i := 3) (k := 6) (v := nI 0) (hz 8 6 (by decide) (by decide))]
  refine pW_eq (pc' := 57) (L' := [some (pm_r 8 3), some (pm_i (nI 3))]) (S' := []) (M' := ((pm_u F 8 3 7 (-nI 1)), B0, (pm_u (pm_z (pm_u (pm_z (pm_u (pm_z (pm_u (pm_z (pm_u (pm_z R 9 3 none) 8 3 1 (some (9, 3))) 10 3 none) 8 3 2 (some (10, 3))) 11 3 none) 8 3 3 (some (11, 3))) 12 3 none) 8 3 4 (some (12, 3))) 13 3 none) 8 3 5 (some (13, 3))), 32, 0)) 3 (fun call n => rfl) ?_
  refine pW_eq (pc' := 62) (L' := [some (pm_r 8 3), some (pm_i (nI 3))]) (S' := []) (M' := ((pm_u (pm_u F 8 3 7 (-nI 1)) 8 3 8 (nI 0)), B0, (pm_u (pm_z (pm_u (pm_z (pm_u (pm_z (pm_u (pm_z (pm_u (pm_z R 9 3 none) 8 3 1 (some (9, 3))) 10 3 none) 8 3 2 (some (10, 3))) 11 3 none) 8 3 3 (some (11, 3))) 12 3 none) 8 3 4 (some (12, 3))) 13 3 none) 8 3 5 (some (13, 3))), 32, 0)) 3 (fun call n => rfl) ?_
  rw [u_id (A := (pm_u F 8 3 7 (-nI 1))) (f := 8) (i := 3) (k := 8) (v := nI 0) ((u_ne (by omega)).trans (hz 8 8 (by decide) (by decide)))]
  refine pW_eq (pc' := 67) (L' := [some (pm_r 8 3), some (pm_i (nI 3))]) (S' := []) (M' := ((pm_u (pm_u F 8 3 7 (-nI 1)) 8 3 9 (nI 0)), B0, (pm_u (pm_z (pm_u (pm_z (pm_u (pm_z (pm_u (pm_z (pm_u (pm_z R 9 3 none) 8 3 1 (some (9, 3))) 10 3 none) 8 3 2 (some (10, 3))) 11 3 none) 8 3 3 (some (11, 3))) 12 3 none) 8 3 4 (some (12, 3))) 13 3 none) 8 3 5 (some (13, 3))), 32, 0)) 3 (fun call n => rfl) ?_
  rw [u_id (A := (pm_u F 8 3 7 (-nI 1))) (f := 8) (i := 3) (k := 9) (v := nI 0) ((u_ne (by omega)).trans (hz 8 9 (by decide) (by decide)))]
  refine pW_eq (pc' := 72) (L' := [some (pm_r 8 3), some (pm_i (nI 3))]) (S' := []) (M' := ((pm_u (pm_u F 8 3 7 (-nI 1)) 8 3 10 (nI 0)), B0, (pm_u (pm_z (pm_u (pm_z (pm_u (pm_z (pm_u (pm_z (pm_u (pm_z R 9 3 none) 8 3 1 (some (9, 3))) 10 3 none) 8 3 2 (some (10, 3))) 11 3 none) 8 3 3 (some (11, 3))) 12 3 none) 8 3 4 (some (12, 3))) 13 3 none) 8 3 5 (some (13, 3))), 32, 0)) 3 (fun call n => rfl) ?_
  rw [u_id (A := (pm_u F 8 3 7 (-nI 1))) (f := 8) (i := 3) (k := 10) (v := nI 0) ((u_ne (by omega)).trans (hz 8 10 (by decide) (by decide)))]
  refine pW_eq (pc' := 77) (L' := [some (pm_r 8 3), some (pm_i (nI 3))]) (S' := []) (M' := ((pm_u (pm_u F 8 3 7 (-nI 1)) 8 3 11 (nI 0)), B0, (pm_u (pm_z (pm_u (pm_z (pm_u (pm_z (pm_u (pm_z (pm_u (pm_z R 9 3 none) 8 3 1 (some (9, 3))) 10 3 none) 8 3 2 (some (10, 3))) 11 3 none) 8 3 3 (some (11, 3))) 12 3 none) 8 3 4 (some (12, 3))) 13 3 none) 8 3 5 (some (13, 3))), 32, 0)) 3 (fun call n => rfl) ?_
  rw [u_id (A := (pm_u F 8 3 7 (-nI 1))) (f := 8) (i := 3) (k := 11) (v := nI 0) ((u_ne (by omega)).trans (hz 8 11 (by decide) (by decide)))]
  refine pW_eq (pc' := 82) (L' := [some (pm_r 8 3), some (pm_i (nI 3))]) (S' := []) (M' := ((pm_u (pm_u F 8 3 7 (-nI 1)) 8 3 12 (nI 0)), B0, (pm_u (pm_z (pm_u (pm_z (pm_u (pm_z (pm_u (pm_z (pm_u (pm_z R 9 3 none) 8 3 1 (some (9, 3))) 10 3 none) 8 3 2 (some (10, 3))) 11 3 none) 8 3 3 (some (11, 3))) 12 3 none) 8 3 4 (some (12, 3))) 13 3 none) 8 3 5 (some (13, 3))), 32, 0)) 3 (fun call n => rfl) ?_
  rw [u_id (A := (pm_u F 8 3 7 (-nI 1))) (f := 8) (i := 3) (k := 12) (v := nI 0) ((u_ne (by omega)).trans (hz 8 12 (by decide) (by decide)))]
  refine pW_eq (pc' := 87) (L' := [some (pm_r 8 3), some (pm_i (nI 3))]) (S' := []) (M' := ((pm_u (pm_u F 8 3 7 (-nI 1)) 8 3 13 (nI 0)), B0, (pm_u (pm_z (pm_u (pm_z (pm_u (pm_z (pm_u (pm_z (pm_u (pm_z R 9 3 none) 8 3 1 (some (9, 3))) 10 3 none) 8 3 2 (some (10, 3))) 11 3 none) 8 3 3 (some (11, 3))) 12 3 none) 8 3 4 (some (12, 3))) 13 3 none) 8 3 5 (some (13, 3))), 32, 0)) 3 (fun call n => rfl) ?_
  rw [u_id (A := (pm_u F 8 3 7 (-nI 1))) (f := 8) (i := 3) (k := 13) (v := nI 0) ((u_ne (by omega)).trans (hz 8 13 (by decide) (by decide)))]
  refine pW_eq (pc' := 92) (L' := [some (pm_r 8 3), some (pm_i (nI 3))]) (S' := []) (M' := ((pm_u (pm_u F 8 3 7 (-nI 1)) 8 3 14 (nI 0)), B0, (pm_u (pm_z (pm_u (pm_z (pm_u (pm_z (pm_u (pm_z (pm_u (pm_z R 9 3 none) 8 3 1 (some (9, 3))) 10 3 none) 8 3 2 (some (10, 3))) 11 3 none) 8 3 3 (some (11, 3))) 12 3 none) 8 3 4 (some (12, 3))) 13 3 none) 8 3 5 (some (13, 3))), 32, 0)) 3 (fun call n => rfl) ?_
  rw [u_id (A := (pm_u F 8 3 7 (-nI 1))) (f := 8) (i := 3) (k := 14) (v := nI 0) ((u_ne (by omega)).trans (hz 8 14 (by decide) (by decide)))]
  refine pW_eq (pc' := 97) (L' := [some (pm_r 8 3), some (pm_i (nI 3))]) (S' := []) (M' := ((pm_u (pm_u F 8 3 7 (-nI 1)) 8 3 15 (nI 0)), B0, (pm_u (pm_z (pm_u (pm_z (pm_u (pm_z (pm_u (pm_z (pm_u (pm_z R 9 3 none) 8 3 1 (some (9, 3))) 10 3 none) 8 3 2 (some (10, 3))) 11 3 none) 8 3 3 (some (11, 3))) 12 3 none) 8 3 4 (some (12, 3))) 13 3 none) 8 3 5 (some (13, 3))), 32, 0)) 3 (fun call n => rfl) ?_
  rw [u_id (A := (pm_u F 8 3 7 (-nI 1))) (f := 8) (i := 3) (k := 15) (v := nI 0) ((u_ne (by omega)).trans (hz 8 15 (by decide) (by decide)))]
  refine pW_eq (pc' := 102) (L' := [some (pm_r 8 3), some (pm_i (nI 3))]) (S' := []) (M' := ((pm_u (pm_u F 8 3 7 (-nI 1)) 8 3 0 (nI 3)), B0, (pm_u (pm_z (pm_u (pm_z (pm_u (pm_z (pm_u (pm_z (pm_u (pm_z R 9 3 none) 8 3 1 (some (9, 3))) 10 3 none) 8 3 2 (some (10, 3))) 11 3 none) 8 3 3 (some (11, 3))) 12 3 none) 8 3 4 (some (12, 3))) 13 3 none) 8 3 5 (some (13, 3))), 32, 0)) 3 (fun call n => rfl) ?_
  refine pW_ret 1 (fun call n => rfl) ?_
  rfl
theorem k109_4 (hz : ∀ f k, 8 ≤ f → f ≤ 13 → F f 4 k = nI 0) : pE ns (d + 2) 109 [pm_r 8 4, pm_i (nI 4)] (F, B0, R, 33, 0) (.inl none, ((pm_u (pm_u F 8 4 7 (-nI 1)) 8 4 0 (nI 4)), B0, RTs 4 R, 38, 0)) := by
  refine en rfl ?_
  refine pW_eq (pc' := 9) (L' := [some (pm_r 8 4), some (pm_i (nI 4))]) (S' := [pm_r 9 4, pm_r 8 4]) (M' := (pm_z F 9 4 0, pm_z B0 9 4 0, pm_z R 9 4 none, 34, 0)) 5 (fun call n => rfl) ?_
  rw [zF (F := F) (f := 9) (i := 4) (fun k0 => (hz 9 k0 (by decide) (by decide))), zB]
  refine pW_eq (pc' := 12) (L' := [some (pm_r 8 4), some (pm_i (nI 4))]) (S' := []) (M' := (F, B0, (pm_u (pm_z R 9 4 none) 8 4 1 (some (9, 4))), 34, 0)) 1 (fun call n => rfl) ?_
  refine pW_eq (pc' := 17) (L' := [some (pm_r 8 4), some (pm_i (nI 4))]) (S' := [pm_r 10 4, pm_r 8 4]) (M' := (pm_z F 10 4 0, pm_z B0 10 4 0, pm_z (pm_u (pm_z R 9 4 none) 8 4 1 (some (9, 4))) 10 4 none, 35, 0)) 3 (fun call n => rfl) ?_
  rw [zF (F := F) (f := 10) (i := 4) (fun k0 => (hz 10 k0 (by decide) (by decide))), zB]
  refine pW_eq (pc' := 20) (L' := [some (pm_r 8 4), some (pm_i (nI 4))]) (S' := []) (M' := (F, B0, (pm_u (pm_z (pm_u (pm_z R 9 4 none) 8 4 1 (some (9, 4))) 10 4 none) 8 4 2 (some (10, 4))), 35, 0)) 1 (fun call n => rfl) ?_
  refine pW_eq (pc' := 25) (L' := [some (pm_r 8 4), some (pm_i (nI 4))]) (S' := [pm_r 11 4, pm_r 8 4]) (M' := (pm_z F 11 4 0, pm_z B0 11 4 0, pm_z (pm_u (pm_z (pm_u (pm_z R 9 4 none) 8 4 1 (some (9, 4))) 10 4 none) 8 4 2 (some (10, 4))) 11 4 none, 36, 0)) 3 (fun call n => rfl) ?_
  rw [zF (F := F) (f := 11) (i := 4) (fun k0 => (hz 11 k0 (by decide) (by decide))), zB]
  refine pW_eq (pc' := 28) (L' := [some (pm_r 8 4), some (pm_i (nI 4))]) (S' := []) (M' := (F, B0, (pm_u (pm_z (pm_u (pm_z (pm_u (pm_z R 9 4 none) 8 4 1 (some (9, 4))) 10 4 none) 8 4 2 (some (10, 4))) 11 4 none) 8 4 3 (some (11, 4))), 36, 0)) 1 (fun call n => rfl) ?_
  refine pW_eq (pc' := 33) (L' := [some (pm_r 8 4), some (pm_i (nI 4))]) (S' := [pm_r 12 4, pm_r 8 4]) (M' := (pm_z F 12 4 0, pm_z B0 12 4 0, pm_z (pm_u (pm_z (pm_u (pm_z (pm_u (pm_z R 9 4 none) 8 4 1 (some (9, 4))) 10 4 none) 8 4 2 (some (10, 4))) 11 4 none) 8 4 3 (some (11, 4))) 12 4 none, 37, 0)) 3 (fun call n => rfl) ?_
  rw [zF (F := F) (f := 12) (i := 4) (fun k0 => (hz 12 k0 (by decide) (by decide))), zB]
  refine pW_eq (pc' := 36) (L' := [some (pm_r 8 4), some (pm_i (nI 4))]) (S' := []) (M' := (F, B0, (pm_u (pm_z (pm_u (pm_z (pm_u (pm_z (pm_u (pm_z R 9 4 none) 8 4 1 (some (9, 4))) 10 4 none) 8 4 2 (some (10, 4))) 11 4 none) 8 4 3 (some (11, 4))) 12 4 none) 8 4 4 (some (12, 4))), 37, 0)) 1 (fun call n => rfl) ?_
  refine pW_eq (pc' := 40) (L' := [some (pm_r 8 4), some (pm_i (nI 4))]) (S' := [pm_r 13 4, pm_r 8 4]) (M' := (pm_z F 13 4 0, pm_z B0 13 4 0, pm_z (pm_u (pm_z (pm_u (pm_z (pm_u (pm_z (pm_u (pm_z R 9 4 none) 8 4 1 (some (9, 4))) 10 4 none) 8 4 2 (some (10, 4))) 11 4 none) 8 4 3 (some (11, 4))) 12 4 none) 8 4 4 (some (12, 4))) 13 4 none, 38, 0)) 2 (fun call n => rfl) ?_
  rw [zF (F := F) (f := 13) (i := 4) (fun k0 => (hz 13 k0 (by decide) (by decide))), zB]
  refine pW_call (pc' := 41) (r := [pm_r 13 4, pm_r 8 4]) (L' := [some (pm_r 8 4), some (pm_i (nI 4))]) (M' := (F, B0, (pm_z (pm_u (pm_z (pm_u (pm_z (pm_u (pm_z (pm_u (pm_z R 9 4 none) 8 4 1 (some (9, 4))) 10 4 none) 8 4 2 (some (10, 4))) 11 4 none) 8 4 3 (some (11, 4))) 12 4 none) 8 4 4 (some (12, 4))) 13 4 none), 38, 0)) 2 (fun call n => rfl) (k106_4 (d := d) (fun k0 => (hz 13 k0 (by decide) (by decide)))) ?_
  refine pW_eq (pc' := 47) (L' := [some (pm_r 8 4), some (pm_i (nI 4))]) (S' := []) (M' := (F, B0, (pm_u (pm_z (pm_u (pm_z (pm_u (pm_z (pm_u (pm_z (pm_u (pm_z R 9 4 none) 8 4 1 (some (9, 4))) 10 4 none) 8 4 2 (some (10, 4))) 11 4 none) 8 4 3 (some (11, 4))) 12 4 none) 8 4 4 (some (12, 4))) 13 4 none) 8 4 5 (some (13, 4))), 38, 0)) 1 (fun call n => rfl) ?_
  refine pW_eq (pc' := 52) (L' := [some (pm_r 8 4), some (pm_i (nI 4))]) (S' := []) (M' := ((pm_u F 8 4 6 (nI 0)), B0, (pm_u (pm_z (pm_u (pm_z (pm_u (pm_z (pm_u (pm_z (pm_u (pm_z R 9 4 none) 8 4 1 (some (9, 4))) 10 4 none) 8 4 2 (some (10, 4))) 11 4 none) 8 4 3 (some (11, 4))) 12 4 none) 8 4 4 (some (12, 4))) 13 4 none) 8 4 5 (some (13, 4))), 38, 0)) 3 (fun call n => rfl) ?_
  rw [u_id (A := F) (f := 8) (i := 4) (k := 6) (v := nI 0) (hz 8 6 (by decide) (by decide))]
  refine pW_eq (pc' := 57) (L' := [some (pm_r 8 4), some (pm_i (nI 4))]) (S' := []) (M' := ((pm_u F 8 4 7 (-nI 1)), B0, (pm_u (pm_z (pm_u (pm_z (pm_u (pm_z (pm_u (pm_z (pm_u (pm_z R 9 4 none) 8 4 1 (some (9, 4))) 10 4 none) 8 4 2 (some (10, 4))) 11 4 none) 8 4 3 (some (11, 4))) 12 4 none) 8 4 4 (some (12, 4))) 13 4 none) 8 4 5 (some (13, 4))), 38, 0)) 3 (fun call n => rfl) ?_
  refine pW_eq (pc' := 62) (L' := [some (pm_r 8 4), some (pm_i (nI 4))]) (S' := []) (M' := ((pm_u (pm_u F 8 4 7 (-nI 1)) 8 4 8 (nI 0)), B0, (pm_u (pm_z (pm_u (pm_z (pm_u (pm_z (pm_u (pm_z (pm_u (pm_z R 9 4 none) 8 4 1 (some (9, 4))) 10 4 none) 8 4 2 (some (10, 4))) 11 4 none) 8 4 3 (some (11, 4))) 12 4 none) 8 4 4 (some (12, 4))) 13 4 none) 8 4 5 (some (13, 4))), 38, 0)) 3 (fun call n => rfl) ?_
  rw [u_id (A := (pm_u F 8 4 7 (-nI 1))) (f := 8) (i := 4) (k := 8) (v := nI 0) ((u_ne (by omega)).trans (hz 8 8 (by decide) (by decide)))]
  refine pW_eq (pc' := 67) (L' := [some (pm_r 8 4), some (pm_i (nI 4))]) (S' := []) (M' := ((pm_u (pm_u F 8 4 7 (-nI 1)) 8 4 9 (nI 0)), B0, (pm_u (pm_z (pm_u (pm_z (pm_u (pm_z (pm_u (pm_z (pm_u (pm_z R 9 4 none) 8 4 1 (some (9, 4))) 10 4 none) 8 4 2 (some (10, 4))) 11 4 none) 8 4 3 (some (11, 4))) 12 4 none) 8 4 4 (some (12, 4))) 13 4 none) 8 4 5 (some (13, 4))), 38, 0)) 3 (fun call n => rfl) ?_
  rw [u_id (A := (pm_u F 8 4 7 (-nI 1))) (f := 8) (i := 4) (k := 9) (v := nI 0) ((u_ne (by omega)).trans (hz 8 9 (by decide) (by decide)))]
  refine pW_eq (pc' := 72) (L' := [some (pm_r 8 4), some (pm_i (nI 4))]) (S' := []) (M' := ((pm_u (pm_u F 8 4 7 (-nI 1)) 8 4 10 (nI 0)), B0, (pm_u (pm_z (pm_u (pm_z (pm_u (pm_z (pm_u (pm_z (pm_u (pm_z R 9 4 none) 8 4 1 (some (9, 4))) 10 4 none) 8 4 2 (some (10, 4))) 11 4 none) 8 4 3 (some (11, 4))) 12 4 none) 8 4 4 (some (12, 4))) 13 4 none) 8 4 5 (some (13, 4))), 38, 0)) 3 (fun call n => rfl) ?_
  rw [u_id (A := (pm_u F 8 4 7 (-nI 1))) (f := 8) (i := 4) (k := 10) (v := nI 0) ((u_ne (by omega)).trans (hz 8 10 (by decide) (by decide)))]
  refine pW_eq (pc' := 77) (L' := [some (pm_r 8 4), some (pm_i (nI 4))]) (S' := []) (M' := ((pm_u (pm_u F 8 4 7 (-nI 1)) 8 4 11 (nI 0)), B0, (pm_u (pm_z (pm_u (pm_z (pm_u (pm_z (pm_u (pm_z (pm_u (pm_z R 9 4 none) 8 4 1 (some (9, 4))) 10 4 none) 8 4 2 (some (10, 4))) 11 4 none) 8 4 3 (some (11, 4))) 12 4 none) 8 4 4 (some (12, 4))) 13 4 none) 8 4 5 (some (13, 4))), 38, 0)) 3 (fun call n => rfl) ?_
  rw [u_id (A := (pm_u F 8 4 7 (-nI 1))) (f := 8) (i := 4) (k := 11) (v := nI 0) ((u_ne (by omega)).trans (hz 8 11 (by decide) (by decide)))]
  refine pW_eq (pc' := 82) (L' := [some (pm_r 8 4), some (pm_i (nI 4))]) (S' := []) (M' := ((pm_u (pm_u F 8 4 7 (-nI 1)) 8 4 12 (nI 0)), B0, (pm_u (pm_z (pm_u (pm_z (pm_u (pm_z (pm_u (pm_z (pm_u (pm_z R 9 4 none) 8 4 1 (some (9, 4))) 10 4 none) 8 4 2 (some (10, 4))) 11 4 none) 8 4 3 (some (11, 4))) 12 4 none) 8 4 4 (some (12, 4))) 13 4 none) 8 4 5 (some (13, 4))), 38, 0)) 3 (fun call n => rfl) ?_
  rw [u_id (A := (pm_u F 8 4 7 (-nI 1))) (f := 8) (i := 4) (k := 12) (v := nI 0) ((u_ne (by omega)).trans (hz 8 12 (by decide) (by decide)))]
  refine pW_eq (pc' := 87) (L' := [some (pm_r 8 4), some (pm_i (nI 4))]) (S' := []) (M' := ((pm_u (pm_u F 8 4 7 (-nI 1)) 8 4 13 (nI 0)), B0, (pm_u (pm_z (pm_u (pm_z (pm_u (pm_z (pm_u (pm_z (pm_u (pm_z R 9 4 none) 8 4 1 (some (9, 4))) 10 4 none) 8 4 2 (some (10, 4))) 11 4 none) 8 4 3 (some (11, 4))) 12 4 none) 8 4 4 (some (12, 4))) 13 4 none) 8 4 5 (some (13, 4))), 38, 0)) 3 (fun call n => rfl) ?_
  rw [u_id (A := (pm_u F 8 4 7 (-nI 1))) (f := 8) (i := 4) (k := 13) (v := nI 0) ((u_ne (by omega)).trans (hz 8 13 (by decide) (by decide)))]
  refine pW_eq (pc' := 92) (L' := [some (pm_r 8 4), some (pm_i (nI 4))]) (S' := []) (M' := ((pm_u (pm_u F 8 4 7 (-nI 1)) 8 4 14 (nI 0)), B0, (pm_u (pm_z (pm_u (pm_z (pm_u (pm_z (pm_u (pm_z (pm_u (pm_z R 9 4 none) 8 4 1 (some (9, 4))) 10 4 none) 8 4 2 (some (10, 4))) 11 4 none) 8 4 3 (some (11, 4))) 12 4 none) 8 4 4 (some (12, 4))) 13 4 none) 8 4 5 (some (13, 4))), 38, 0)) 3 (fun call n => rfl) ?_
  rw [u_id (A := (pm_u F 8 4 7 (-nI 1))) (f := 8) (i := 4) (k := 14) (v := nI 0) ((u_ne (by omega)).trans (hz 8 14 (by decide) (by decide)))]
  refine pW_eq (pc' := 97) (L' := [some (pm_r 8 4), some (pm_i (nI 4))]) (S' := []) (M' := ((pm_u (pm_u F 8 4 7 (-nI 1)) 8 4 15 (nI 0)), B0, (pm_u (pm_z (pm_u (pm_z (pm_u (pm_z (pm_u (pm_z (pm_u (pm_z R 9 4 none) 8 4 1 (some (9, 4))) 10 4 none) 8 4 2 (some (10, 4))) 11 4 none) 8 4 3 (some (11, 4))) 12 4 none) 8 4 4 (some (12, 4))) 13 4 none) 8 4 5 (some (13, 4))), 38, 0)) 3 (fun call n => rfl) ?_
  rw [u_id (A := (pm_u F 8 4 7 (-nI 1))) (f := 8) (i := 4) (k := 15) (v := nI 0) ((u_ne (by omega)).trans (hz 8 15 (by decide) (by decide)))]
  refine pW_eq (pc' := 102) (L' := [some (pm_r 8 4), some (pm_i (nI 4))]) (S' := []) (M' := ((pm_u (pm_u F 8 4 7 (-nI 1)) 8 4 0 (nI 4)), B0, (pm_u (pm_z (pm_u (pm_z (pm_u (pm_z (pm_u (pm_z (pm_u (pm_z R 9 4 none) 8 4 1 (some (9, 4))) 10 4 none) 8 4 2 (some (10, 4))) 11 4 none) 8 4 3 (some (11, 4))) 12 4 none) 8 4 4 (some (12, 4))) 13 4 none) 8 4 5 (some (13, 4))), 38, 0)) 3 (fun call n => rfl) ?_
  refine pW_ret 1 (fun call n => rfl) ?_
  rfl
theorem k109_5 (hz : ∀ f k, 8 ≤ f → f ≤ 13 → F f 5 k = nI 0) : pE ns (d + 2) 109 [pm_r 8 5, pm_i (nI 5)] (F, B0, R, 39, 0) (.inl none, ((pm_u (pm_u F 8 5 7 (-nI 1)) 8 5 0 (nI 5)), B0, RTs 5 R, 44, 0)) := by
  refine en rfl ?_
  refine pW_eq (pc' := 9) (L' := [some (pm_r 8 5), some (pm_i (nI 5))]) (S' := [pm_r 9 5, pm_r 8 5]) (M' := (pm_z F 9 5 0, pm_z B0 9 5 0, pm_z R 9 5 none, 40, 0)) 5 (fun call n => rfl) ?_
  rw [zF (F := F) (f := 9) (i := 5) (fun k0 => (hz 9 k0 (by decide) (by decide))), zB]
  refine pW_eq (pc' := 12) (L' := [some (pm_r 8 5), some (pm_i (nI 5))]) (S' := []) (M' := (F, B0, (pm_u (pm_z R 9 5 none) 8 5 1 (some (9, 5))), 40, 0)) 1 (fun call n => rfl) ?_
  refine pW_eq (pc' := 17) (L' := [some (pm_r 8 5), some (pm_i (nI 5))]) (S' := [pm_r 10 5, pm_r 8 5]) (M' := (pm_z F 10 5 0, pm_z B0 10 5 0, pm_z (pm_u (pm_z R 9 5 none) 8 5 1 (some (9, 5))) 10 5 none, 41, 0)) 3 (fun call n => rfl) ?_
  rw [zF (F := F) (f := 10) (i := 5) (fun k0 => (hz 10 k0 (by decide) (by decide))), zB]
  refine pW_eq (pc' := 20) (L' := [some (pm_r 8 5), some (pm_i (nI 5))]) (S' := []) (M' := (F, B0, (pm_u (pm_z (pm_u (pm_z R 9 5 none) 8 5 1 (some (9, 5))) 10 5 none) 8 5 2 (some (10, 5))), 41, 0)) 1 (fun call n => rfl) ?_
  refine pW_eq (pc' := 25) (L' := [some (pm_r 8 5), some (pm_i (nI 5))]) (S' := [pm_r 11 5, pm_r 8 5]) (M' := (pm_z F 11 5 0, pm_z B0 11 5 0, pm_z (pm_u (pm_z (pm_u (pm_z R 9 5 none) 8 5 1 (some (9, 5))) 10 5 none) 8 5 2 (some (10, 5))) 11 5 none, 42, 0)) 3 (fun call n => rfl) ?_
  rw [zF (F := F) (f := 11) (i := 5) (fun k0 => (hz 11 k0 (by decide) (by decide))), zB]
  refine pW_eq (pc' := 28) (L' := [some (pm_r 8 5), some (pm_i (nI 5))]) (S' := []) (M' := (F, B0, (pm_u (pm_z (pm_u (pm_z (pm_u (pm_z R 9 5 none) 8 5 1 (some (9, 5))) 10 5 none) 8 5 2 (some (10, 5))) 11 5 none) 8 5 3 (some (11, 5))), 42, 0)) 1 (fun call n => rfl) ?_
  refine pW_eq (pc' := 33) (L' := [some (pm_r 8 5), some (pm_i (nI 5))]) (S' := [pm_r 12 5, pm_r 8 5]) (M' := (pm_z F 12 5 0, pm_z B0 12 5 0, pm_z (pm_u (pm_z (pm_u (pm_z (pm_u (pm_z R 9 5 none) 8 5 1 (some (9, 5))) 10 5 none) 8 5 2 (some (10, 5))) 11 5 none) 8 5 3 (some (11, 5))) 12 5 none, 43, 0)) 3 (fun call n => rfl) ?_
  rw [zF (F := F) (f := 12) (i := 5) (fun k0 => (hz 12 k0 (by decide) (by decide))), zB]
  refine pW_eq (pc' := 36) (L' := [some (pm_r 8 5), some (pm_i (nI 5))]) (S' := []) (M' := (F, B0, (pm_u (pm_z (pm_u (pm_z (pm_u (pm_z (pm_u (pm_z R 9 5 none) 8 5 1 (some (9, 5))) 10 5 none) 8 5 2 (some (10, 5))) 11 5 none) 8 5 3 (some (11, 5))) 12 5 none) 8 5 4 (some (12, 5))), 43, 0)) 1 (fun call n => rfl) ?_
  refine pW_eq (pc' := 40) (L' := [some (pm_r 8 5), some (pm_i (nI 5))]) (S' := [pm_r 13 5, pm_r 8 5]) (M' := (pm_z F 13 5 0, pm_z B0 13 5 0, pm_z (pm_u (pm_z (pm_u (pm_z (pm_u (pm_z (pm_u (pm_z R 9 5 none) 8 5 1 (some (9, 5))) 10 5 none) 8 5 2 (some (10, 5))) 11 5 none) 8 5 3 (some (11, 5))) 12 5 none) 8 5 4 (some (12, 5))) 13 5 none, 44, 0)) 2 (fun call n => rfl) ?_
  rw [zF (F := F) (f := 13) (i := 5) (fun k0 => (hz 13 k0 (by decide) (by decide))), zB]
  refine pW_call (pc' := 41) (r := [pm_r 13 5, pm_r 8 5]) (L' := [some (pm_r 8 5), some (pm_i (nI 5))]) (M' := (F, B0, (pm_z (pm_u (pm_z (pm_u (pm_z (pm_u (pm_z (pm_u (pm_z R 9 5 none) 8 5 1 (some (9, 5))) 10 5 none) 8 5 2 (some (10, 5))) 11 5 none) 8 5 3 (some (11, 5))) 12 5 none) 8 5 4 (some (12, 5))) 13 5 none), 44, 0)) 2 (fun call n => rfl) (k106_5 (d := d) (fun k0 => (hz 13 k0 (by decide) (by decide)))) ?_
  refine pW_eq (pc' := 47) (L' := [some (pm_r 8 5), some (pm_i (nI 5))]) (S' := []) (M' := (F, B0, (pm_u (pm_z (pm_u (pm_z (pm_u (pm_z (pm_u (pm_z (pm_u (pm_z R 9 5 none) 8 5 1 (some (9, 5))) 10 5 none) 8 5 2 (some (10, 5))) 11 5 none) 8 5 3 (some (11, 5))) 12 5 none) 8 5 4 (some (12, 5))) 13 5 none) 8 5 5 (some (13, 5))), 44, 0)) 1 (fun call n => rfl) ?_
  refine pW_eq (pc' := 52) (L' := [some (pm_r 8 5), some (pm_i (nI 5))]) (S' := []) (M' := ((pm_u F 8 5 6 (nI 0)), B0, (pm_u (pm_z (pm_u (pm_z (pm_u (pm_z (pm_u (pm_z (pm_u (pm_z R 9 5 none) 8 5 1 (some (9, 5))) 10 5 none) 8 5 2 (some (10, 5))) 11 5 none) 8 5 3 (some (11, 5))) 12 5 none) 8 5 4 (some (12, 5))) 13 5 none) 8 5 5 (some (13, 5))), 44, 0)) 3 (fun call n => rfl) ?_
  rw [u_id (A := F) (f := 8) (i := 5) (k := 6) (v := nI 0) (hz 8 6 (by decide) (by decide))]
  refine pW_eq (pc' := 57) (L' := [some (pm_r 8 5), some (pm_i (nI 5))]) (S' := []) (M' := ((pm_u F 8 5 7 (-nI 1)), B0, (pm_u (pm_z (pm_u (pm_z (pm_u (pm_z (pm_u (pm_z (pm_u (pm_z R 9 5 none) 8 5 1 (some (9, 5))) 10 5 none) 8 5 2 (some (10, 5))) 11 5 none) 8 5 3 (some (11, 5))) 12 5 none) 8 5 4 (some (12, 5))) 13 5 none) 8 5 5 (some (13, 5))), 44, 0)) 3 (fun call n => rfl) ?_
  refine pW_eq (pc' := 62) (L' := [some (pm_r 8 5), some (pm_i (nI 5))]) (S' := []) (M' := ((pm_u (pm_u F 8 5 7 (-nI 1)) 8 5 8 (nI 0)), B0, (pm_u (pm_z (pm_u (pm_z (pm_u (pm_z (pm_u (pm_z (pm_u (pm_z R 9 5 none) 8 5 1 (some (9, 5))) 10 5 none) 8 5 2 (some (10, 5))) 11 5 none) 8 5 3 (some (11, 5))) 12 5 none) 8 5 4 (some (12, 5))) 13 5 none) 8 5 5 (some (13, 5))), 44, 0)) 3 (fun call n => rfl) ?_
  rw [u_id (A := (pm_u F 8 5 7 (-nI 1))) (f := 8) (i := 5) (k := 8) (v := nI 0) ((u_ne (by omega)).trans (hz 8 8 (by decide) (by decide)))]
  refine pW_eq (pc' := 67) (L' := [some (pm_r 8 5), some (pm_i (nI 5))]) (S' := []) (M' := ((pm_u (pm_u F 8 5 7 (-nI 1)) 8 5 9 (nI 0)), B0, (pm_u (pm_z (pm_u (pm_z (pm_u (pm_z (pm_u (pm_z (pm_u (pm_z R 9 5 none) 8 5 1 (some (9, 5))) 10 5 none) 8 5 2 (some (10, 5))) 11 5 none) 8 5 3 (some (11, 5))) 12 5 none) 8 5 4 (some (12, 5))) 13 5 none) 8 5 5 (some (13, 5))), 44, 0)) 3 (fun call n => rfl) ?_
  rw [u_id (A := (pm_u F 8 5 7 (-nI 1))) (f := 8) (i := 5) (k := 9) (v := nI 0) ((u_ne (by omega)).trans (hz 8 9 (by decide) (by decide)))]
  refine pW_eq (pc' := 72) (L' := [some (pm_r 8 5), some (pm_i (nI 5))]) (S' := []) (M' := ((pm_u (pm_u F 8 5 7 (-nI 1)) 8 5 10 (nI 0)), B0, (pm_u (pm_z (pm_u (pm_z (pm_u (pm_z (pm_u (pm_z (pm_u (pm_z R 9 5 none) 8 5 1 (some (9, 5))) 10 5 none) 8 5 2 (some (10, 5))) 11 5 none) 8 5 3 (some (11, 5))) 12 5 none) 8 5 4 (some (12, 5))) 13 5 none) 8 5 5 (some (13, 5))), 44, 0)) 3 (fun call n => rfl) ?_
  rw [u_id (A := (pm_u F 8 5 7 (-nI 1))) (f := 8) (i := 5) (k := 10) (v := nI 0) ((u_ne (by omega)).trans (hz 8 10 (by decide) (by decide)))]
  refine pW_eq (pc' := 77) (L' := [some (pm_r 8 5), some (pm_i (nI 5))]) (S' := []) (M' := ((pm_u (pm_u F 8 5 7 (-nI 1)) 8 5 11 (nI 0)), B0, (pm_u (pm_z (pm_u (pm_z (pm_u (pm_z (pm_u (pm_z (pm_u (pm_z R 9 5 none) 8 5 1 (some (9, 5))) 10 5 none) 8 5 2 (some (10, 5))) 11 5 none) 8 5 3 (some (11, 5))) 12 5 none) 8 5 4 (some (12, 5))) 13 5 none) 8 5 5 (some (13, 5))), 44, 0)) 3 (fun call n => rfl) ?_
  rw [u_id (A := (pm_u F 8 5 7 (-nI 1))) (f := 8) (i := 5) (k := 11) (v := nI 0) ((u_ne (by omega)).trans (hz 8 11 (by decide) (by decide)))]
  refine pW_eq (pc' := 82) (L' := [some (pm_r 8 5), some (pm_i (nI 5))]) (S' := []) (M' := ((pm_u (pm_u F 8 5 7 (-nI 1)) 8 5 12 (nI 0)), B0, (pm_u (pm_z (pm_u (pm_z (pm_u (pm_z (pm_u (pm_z (pm_u (pm_z R 9 5 none) 8 5 1 (some (9, 5))) 10 5 none) 8 5 2 (some (10, 5))) 11 5 none) 8 5 3 (some (11, 5))) 12 5 none) 8 5 4 (some (12, 5))) 13 5 none) 8 5 5 (some (13, 5))), 44, 0)) 3 (fun call n => rfl) ?_
  rw [u_id (A := (pm_u F 8 5 7 (-nI 1))) (f := 8) (i := 5) (k := 12) (v := nI 0) ((u_ne (by omega)).trans (hz 8 12 (by decide) (by decide)))]
  refine pW_eq (pc' := 87) (L' := [some (pm_r 8 5), some (pm_i (nI 5))]) (S' := []) (M' := ((pm_u (pm_u F 8 5 7 (-nI 1)) 8 5 13 (nI 0)), B0, (pm_u (pm_z (pm_u (pm_z (pm_u (pm_z (pm_u (pm_z (pm_u (pm_z R 9 5 none) 8 5 1 (some (9, 5))) 10 5 none) 8 5 2 (some (10, 5))) 11 5 none) 8 5 3 (some (11, 5))) 12 5 none) 8 5 4 (some (12, 5))) 13 5 none) 8 5 5 (some (13, 5))), 44, 0)) 3 (fun call n => rfl) ?_
  rw [u_id (A := (pm_u F 8 5 7 (-nI 1))) (f := 8) (i := 5) (k := 13) (v := nI 0) ((u_ne (by omega)).trans (hz 8 13 (by decide) (by decide)))]
  refine pW_eq (pc' := 92) (L' := [some (pm_r 8 5), some (pm_i (nI 5))]) (S' := []) (M' := ((pm_u (pm_u F 8 5 7 (-nI 1)) 8 5 14 (nI 0)), B0, (pm_u (pm_z (pm_u (pm_z (pm_u (pm_z (pm_u (pm_z (pm_u (pm_z R 9 5 none) 8 5 1 (some (9, 5))) 10 5 none) 8 5 2 (some (10, 5))) 11 5 none) 8 5 3 (some (11, 5))) 12 5 none) 8 5 4 (some (12, 5))) 13 5 none) 8 5 5 (some (13, 5))), 44, 0)) 3 (fun call n => rfl) ?_
  rw [u_id (A := (pm_u F 8 5 7 (-nI 1))) (f := 8) (i := 5) (k := 14) (v := nI 0) ((u_ne (by omega)).trans (hz 8 14 (by decide) (by decide)))]
  refine pW_eq (pc' := 97) (L' := [some (pm_r 8 5), some (pm_i (nI 5))]) (S' := []) (M' := ((pm_u (pm_u F 8 5 7 (-nI 1)) 8 5 15 (nI 0)), B0, (pm_u (pm_z (pm_u (pm_z (pm_u (pm_z (pm_u (pm_z (pm_u (pm_z R 9 5 none) 8 5 1 (some (9, 5))) 10 5 none) 8 5 2 (some (10, 5))) 11 5 none) 8 5 3 (some (11, 5))) 12 5 none) 8 5 4 (some (12, 5))) 13 5 none) 8 5 5 (some (13, 5))), 44, 0)) 3 (fun call n => rfl) ?_
  rw [u_id (A := (pm_u F 8 5 7 (-nI 1))) (f := 8) (i := 5) (k := 15) (v := nI 0) ((u_ne (by omega)).trans (hz 8 15 (by decide) (by decide)))]
  refine pW_eq (pc' := 102) (L' := [some (pm_r 8 5), some (pm_i (nI 5))]) (S' := []) (M' := ((pm_u (pm_u F 8 5 7 (-nI 1)) 8 5 0 (nI 5)), B0, (pm_u (pm_z (pm_u (pm_z (pm_u (pm_z (pm_u (pm_z (pm_u (pm_z R 9 5 none) 8 5 1 (some (9, 5))) 10 5 none) 8 5 2 (some (10, 5))) 11 5 none) 8 5 3 (some (11, 5))) 12 5 none) 8 5 4 (some (12, 5))) 13 5 none) 8 5 5 (some (13, 5))), 44, 0)) 3 (fun call n => rfl) ?_
  refine pW_ret 1 (fun call n => rfl) ?_
  rfl
theorem k109_6 (hz : ∀ f k, 8 ≤ f → f ≤ 13 → F f 6 k = nI 0) : pE ns (d + 2) 109 [pm_r 8 6, pm_i (nI 6)] (F, B0, R, 45, 0) (.inl none, ((pm_u (pm_u F 8 6 7 (-nI 1)) 8 6 0 (nI 6)), B0, RTs 6 R, 50, 0)) := by
  refine en rfl ?_
  refine pW_eq (pc' := 9) (L' := [some (pm_r 8 6), some (pm_i (nI 6))]) (S' := [pm_r 9 6, pm_r 8 6]) (M' := (pm_z F 9 6 0, pm_z B0 9 6 0, pm_z R 9 6 none, 46, 0)) 5 (fun call n => rfl) ?_
  rw [zF (F := F) (f := 9) (i := 6) (fun k0 => (hz 9 k0 (by decide) (by decide))), zB]
  refine pW_eq (pc' := 12) (L' := [some (pm_r 8 6), some (pm_i (nI 6))]) (S' := []) (M' := (F, B0, (pm_u (pm_z R 9 6 none) 8 6 1 (some (9, 6))), 46, 0)) 1 (fun call n => rfl) ?_
  refine pW_eq (pc' := 17) (L' := [some (pm_r 8 6), some (pm_i (nI 6))]) (S' := [pm_r 10 6, pm_r 8 6]) (M' := (pm_z F 10 6 0, pm_z B0 10 6 0, pm_z (pm_u (pm_z R 9 6 none) 8 6 1 (some (9, 6))) 10 6 none, 47, 0)) 3 (fun call n => rfl) ?_
  rw [zF (F := F) (f := 10) (i := 6) (fun k0 => (hz 10 k0 (by decide) (by decide))), zB]
  refine pW_eq (pc' := 20) (L' := [some (pm_r 8 6), some (pm_i (nI 6))]) (S' := []) (M' := (F, B0, (pm_u (pm_z (pm_u (pm_z R 9 6 none) 8 6 1 (some (9, 6))) 10 6 none) 8 6 2 (some (10, 6))), 47, 0)) 1 (fun call n => rfl) ?_
  refine pW_eq (pc' := 25) (L' := [some (pm_r 8 6), some (pm_i (nI 6))]) (S' := [pm_r 11 6, pm_r 8 6]) (M' := (pm_z F 11 6 0, pm_z B0 11 6 0, pm_z (pm_u (pm_z (pm_u (pm_z R 9 6 none) 8 6 1 (some (9, 6))) 10 6 none) 8 6 2 (some (10, 6))) 11 6 none, 48, 0)) 3 (fun call n => rfl) ?_
  rw [zF (F := F) (f := 11) (i := 6) (fun k0 => (hz 11 k0 (by decide) (by decide))), zB]
  refine pW_eq (pc' := 28) (L' := [some (pm_r 8 6), some (pm_i (nI 6))]) (S' := []) (M' := (F, B0, (pm_u (pm_z (pm_u (pm_z (pm_u (pm_z R 9 6 none) 8 6 1 (some (9, 6))) 10 6 none) 8 6 2 (some (10, 6))) 11 6 none) 8 6 3 (some (11, 6))), 48, 0)) 1 (fun call n => rfl) ?_
  refine pW_eq (pc' := 33) (L' := [some (pm_r 8 6), some (pm_i (nI 6))]) (S' := [pm_r 12 6, pm_r 8 6]) (M' := (pm_z F 12 6 0, pm_z B0 12 6 0, pm_z (pm_u (pm_z (pm_u (pm_z (pm_u (pm_z R 9 6 none) 8 6 1 (some (9, 6))) 10 6 none) 8 6 2 (some (10, 6))) 11 6 none) 8 6 3 (some (11, 6))) 12 6 none, 49, 0)) 3 (fun call n => rfl) ?_
  rw [zF (F := F) (f := 12) (i := 6) (fun k0 => (hz 12 k0 (by decide) (by decide))), zB]
  refine pW_eq (pc' := 36) (L' := [some (pm_r 8 6), some (pm_i (nI 6))]) (S' := []) (M' := (F, B0, (pm_u (pm_z (pm_u (pm_z (pm_u (pm_z (pm_u (pm_z R 9 6 none) 8 6 1 (some (9, 6))) 10 6 none) 8 6 2 (some (10, 6))) 11 6 none) 8 6 3 (some (11, 6))) 12 6 none) 8 6 4 (some (12, 6))), 49, 0)) 1 (fun call n => rfl) ?_
  refine pW_eq (pc' := 40) (L' := [some (pm_r 8 6), some (pm_i (nI 6))]) (S' := [pm_r 13 6, pm_r 8 6]) (M' := (pm_z F 13 6 0, pm_z B0 13 6 0, pm_z (pm_u (pm_z (pm_u (pm_z (pm_u (pm_z (pm_u (pm_z R 9 6 none) 8 6 1 (some (9, 6))) 10 6 none) 8 6 2 (some (10, 6))) 11 6 none) 8 6 3 (some (11, 6))) 12 6 none) 8 6 4 (some (12, 6))) 13 6 none, 50, 0)) 2 (fun call n => rfl) ?_
  rw [zF (F := F) (f := 13) (i := 6) (fun k0 => (hz 13 k0 (by decide) (by decide))), zB]
  refine pW_call (pc' := 41) (r := [pm_r 13 6, pm_r 8 6]) (L' := [some (pm_r 8 6), some (pm_i (nI 6))]) (M' := (F, B0, (pm_z (pm_u (pm_z (pm_u (pm_z (pm_u (pm_z (pm_u (pm_z R 9 6 none) 8 6 1 (some (9, 6))) 10 6 none) 8 6 2 (some (10, 6))) 11 6 none) 8 6 3 (some (11, 6))) 12 6 none) 8 6 4 (some (12, 6))) 13 6 none), 50, 0)) 2 (fun call n => rfl) (k106_6 (d := d) (fun k0 => (hz 13 k0 (by decide) (by decide)))) ?_
  refine pW_eq (pc' := 47) (L' := [some (pm_r 8 6), some (pm_i (nI 6))]) (S' := []) (M' := (F, B0, (pm_u (pm_z (pm_u (pm_z (pm_u (pm_z (pm_u (pm_z (pm_u (pm_z R 9 6 none) 8 6 1 (some (9, 6))) 10 6 none) 8 6 2 (some (10, 6))) 11 6 none) 8 6 3 (some (11, 6))) 12 6 none) 8 6 4 (some (12, 6))) 13 6 none) 8 6 5 (some (13, 6))), 50, 0)) 1 (fun call n => rfl) ?_
  refine pW_eq (pc' := 52) (L' := [some (pm_r 8 6), some (pm_i (nI 6))]) (S' := []) (M' := ((pm_u F 8 6 6 (nI 0)), B0, (pm_u (pm_z (pm_u (pm_z (pm_u (pm_z (pm_u (pm_z (pm_u (pm_z R 9 6 none) 8 6 1 (some (9, 6))) 10 6 none) 8 6 2 (some (10, 6))) 11 6 none) 8 6 3 (some (11, 6))) 12 6 none) 8 6 4 (some (12, 6))) 13 6 none) 8 6 5 (some (13, 6))), 50, 0)) 3 (fun call n => rfl) ?_
  rw [u_id (A := F) (f := 8) (i := 6) (k := 6) (v := nI 0) (hz 8 6 (by decide) (by decide))]
  refine pW_eq (pc' := 57) (L' := [some (pm_r 8 6), some (pm_i (nI 6))]) (S' := []) (M' := ((pm_u F 8 6 7 (-nI 1)), B0, (pm_u (pm_z (pm_u (pm_z (pm_u (pm_z (pm_u (pm_z (pm_u (pm_z R 9 6 none) 8 6 1 (some (9, 6))) 10 6 none) 8 6 2 (some (10, 6))) 11 6 none) 8 6 3 (some (11, 6))) 12 6 none) 8 6 4 (some (12, 6))) 13 6 none) 8 6 5 (some (13, 6))), 50, 0)) 3 (fun call n => rfl) ?_
  refine pW_eq (pc' := 62) (L' := [some (pm_r 8 6), some (pm_i (nI 6))]) (S' := []) (M' := ((pm_u (pm_u F 8 6 7 (-nI 1)) 8 6 8 (nI 0)), B0, (pm_u (pm_z (pm_u (pm_z (pm_u (pm_z (pm_u (pm_z (pm_u (pm_z R 9 6 none) 8 6 1 (some (9, 6))) 10 6 none) 8 6 2 (some (10, 6))) 11 6 none) 8 6 3 (some (11, 6))) 12 6 none) 8 6 4 (some (12, 6))) 13 6 none) 8 6 5 (some (13, 6))), 50, 0)) 3 (fun call n => rfl) ?_
  rw [u_id (A := (pm_u F 8 6 7 (-nI 1))) (f := 8) (i := 6) (k := 8) (v := nI 0) ((u_ne (by omega)).trans (hz 8 8 (by decide) (by decide)))]
  refine pW_eq (pc' := 67) (L' := [some (pm_r 8 6), some (pm_i (nI 6))]) (S' := []) (M' := ((pm_u (pm_u F 8 6 7 (-nI 1)) 8 6 9 (nI 0)), B0, (pm_u (pm_z (pm_u (pm_z (pm_u (pm_z (pm_u (pm_z (pm_u (pm_z R 9 6 none) 8 6 1 (some (9, 6))) 10 6 none) 8 6 2 (some (10, 6))) 11 6 none) 8 6 3 (some (11, 6))) 12 6 none) 8 6 4 (some (12, 6))) 13 6 none) 8 6 5 (some (13, 6))), 50, 0)) 3 (fun call n => rfl) ?_
  rw [u_id (A := (pm_u F 8 6 7 (-nI 1))) (f := 8) (i := 6) (k := 9) (v := nI 0) ((u_ne (by omega)).trans (hz 8 9 (by decide) (by decide)))]
  refine pW_eq (pc' := 72) (L' := [some (pm_r 8 6), some (pm_i (nI 6))]) (S' := []) (M' := ((pm_u (pm_u F 8 6 7 (-nI 1)) 8 6 10 (nI 0)), B0, (pm_u (pm_z (pm_u (pm_z (pm_u (pm_z (pm_u (pm_z (pm_u (pm_z R 9 6 none) 8 6 1 (some (9, 6))) 10 6 none) 8 6 2 (some (10, 6))) 11 6 none) 8 6 3 (some (11, 6))) 12 6 none) 8 6 4 (some (12, 6))) 13 6 none) 8 6 5 (some (13, 6))), 50, 0)) 3 (fun call n => rfl) ?_
  rw [u_id (A := (pm_u F 8 6 7 (-nI 1))) (f := 8) (i := 6) (k := 10) (v := nI 0) ((u_ne (by omega)).trans (hz 8 10 (by decide) (by decide)))]
  refine pW_eq (pc' := 77) (L' := [some (pm_r 8 6), some (pm_i (nI 6))]) (S' := []) (M' := ((pm_u (pm_u F 8 6 7 (-nI 1)) 8 6 11 (nI 0)), B0, (pm_u (pm_z (pm_u (pm_z (pm_u (pm_z (pm_u (pm_z (pm_u (pm_z R 9 6 none) 8 6 1 (some (9, 6))) 10 6 none) 8 6 2 (some (10, 6))) 11 6 none) 8 6 3 (some (11, 6))) 12 6 none) 8 6 4 (some (12, 6))) 13 6 none) 8 6 5 (some (13, 6))), 50, 0)) 3 (fun call n => rfl) ?_
  rw [u_id (A := (pm_u F 8 6 7 (-nI 1))) (f := 8) (i := 6) (k := 11) (v := nI 0) ((u_ne (by omega)).trans (hz 8 11 (by decide) (by decide)))]
  refine pW_eq (pc' := 82) (L' := [some (pm_r 8 6), some (pm_i (nI 6))]) (S' := []) (M' := ((pm_u (pm_u F 8 6 7 (-nI 1)) 8 6 12 (nI 0)), B0, (pm_u (pm_z (pm_u (pm_z (pm_u (pm_z (pm_u (pm_z (pm_u (pm_z R 9 6 none) 8 6 1 (some (9, 6))) 10 6 none) 8 6 2 (some (10, 6))) 11 6 none) 8 6 3 (some (11, 6))) 12 6 none) 8 6 4 (some (12, 6))) 13 6 none) 8 6 5 (some (13, 6))), 50, 0)) 3 (fun call n => rfl) ?_
  rw [u_id (A := (pm_u F 8 6 7 (-nI 1))) (f := 8) (i := 6) (k := 12) (v := nI 0) ((u_ne (by omega)).trans (hz 8 12 (by decide) (by decide)))]
  refine pW_eq (pc' := 87) (L' := [some (pm_r 8 6), some (pm_i (nI 6))]) (S' := []) (M' := ((pm_u (pm_u F 8 6 7 (-nI 1)) 8 6 13 (nI 0)), B0, (pm_u (pm_z (pm_u (pm_z (pm_u (pm_z (pm_u (pm_z (pm_u (pm_z R 9 6 none) 8 6 1 (some (9, 6))) 10 6 none) 8 6 2 (some (10, 6))) 11 6 none) 8 6 3 (some (11, 6))) 12 6 none) 8 6 4 (some (12, 6))) 13 6 none) 8 6 5 (some (13, 6))), 50, 0)) 3 (fun call n => rfl) ?_
  rw [u_id (A := (pm_u F 8 6 7 (-nI 1))) (f := 8) (i := 6) (k := 13) (v := nI 0) ((u_ne (by omega)).trans (hz 8 13 (by decide) (by decide)))]
  refine pW_eq (pc' := 92) (L' := [some (pm_r 8 6), some (pm_i (nI 6))]) (S' := []) (M' := ((pm_u (pm_u F 8 6 7 (-nI 1)) 8 6 14 (nI 0)), B0, (pm_u (pm_z (pm_u (pm_z (pm_u (pm_z (pm_u (pm_z (pm_u (pm_z R 9 6 none) 8 6 1 (some (9, 6))) 10 6 none) 8 6 2 (some (10, 6))) 11 6 none) 8 6 3 (some (11, 6))) 12 6 none) 8 6 4 (some (12, 6))) 13 6 none) 8 6 5 (some (13, 6))), 50, 0)) 3 (fun call n => rfl) ?_
  rw [u_id (A := (pm_u F 8 6 7 (-nI 1))) (f := 8) (i := 6) (k := 14) (v := nI 0) ((u_ne (by omega)).trans (hz 8 14 (by decide) (by decide)))]
  refine pW_eq (pc' := 97) (L' := [some (pm_r 8 6), some (pm_i (nI 6))]) (S' := []) (M' := ((pm_u (pm_u F 8 6 7 (-nI 1)) 8 6 15 (nI 0)), B0, (pm_u (pm_z (pm_u (pm_z (pm_u (pm_z (pm_u (pm_z (pm_u (pm_z R 9 6 none) 8 6 1 (some (9, 6))) 10 6 none) 8 6 2 (some (10, 6))) 11 6 none) 8 6 3 (some (11, 6))) 12 6 none) 8 6 4 (some (12, 6))) 13 6 none) 8 6 5 (some (13, 6))), 50, 0)) 3 (fun call n => rfl) ?_
  rw [u_id (A := (pm_u F 8 6 7 (-nI 1))) (f := 8) (i := 6) (k := 15) (v := nI 0) ((u_ne (by omega)).trans (hz 8 15 (by decide) (by decide)))]
  refine pW_eq (pc' := 102) (L' := [some (pm_r 8 6), some (pm_i (nI 6))]) (S' := []) (M' := ((pm_u (pm_u F 8 6 7 (-nI 1)) 8 6 0 (nI 6)), B0, (pm_u (pm_z (pm_u (pm_z (pm_u (pm_z (pm_u (pm_z (pm_u (pm_z R 9 6 none) 8 6 1 (some (9, 6))) 10 6 none) 8 6 2 (some (10, 6))) 11 6 none) 8 6 3 (some (11, 6))) 12 6 none) 8 6 4 (some (12, 6))) 13 6 none) 8 6 5 (some (13, 6))), 50, 0)) 3 (fun call n => rfl) ?_
  refine pW_ret 1 (fun call n => rfl) ?_
  rfl
theorem k109_7 (hz : ∀ f k, 8 ≤ f → f ≤ 13 → F f 7 k = nI 0) : pE ns (d + 2) 109 [pm_r 8 7, pm_i (nI 7)] (F, B0, R, 51, 0) (.inl none, ((pm_u (pm_u F 8 7 7 (-nI 1)) 8 7 0 (nI 7)), B0, RTs 7 R, 56, 0)) := by
  refine en rfl ?_
  refine pW_eq (pc' := 9) (L' := [some (pm_r 8 7), some (pm_i (nI 7))]) (S' := [pm_r 9 7, pm_r 8 7]) (M' := (pm_z F 9 7 0, pm_z B0 9 7 0, pm_z R 9 7 none, 52, 0)) 5 (fun call n => rfl) ?_
  rw [zF (F := F) (f := 9) (i := 7) (fun k0 => (hz 9 k0 (by decide) (by decide))), zB]
  refine pW_eq (pc' := 12) (L' := [some (pm_r 8 7), some (pm_i (nI 7))]) (S' := []) (M' := (F, B0, (pm_u (pm_z R 9 7 none) 8 7 1 (some (9, 7))), 52, 0)) 1 (fun call n => rfl) ?_
  refine pW_eq (pc' := 17) (L' := [some (pm_r 8 7), some (pm_i (nI 7))]) (S' := [pm_r 10 7, pm_r 8 7]) (M' := (pm_z F 10 7 0, pm_z B0 10 7 0, pm_z (pm_u (pm_z R 9 7 none) 8 7 1 (some (9, 7))) 10 7 none, 53, 0)) 3 (fun call n => rfl) ?_
  rw [zF (F := F) (f := 10) (i := 7) (fun k0 => (hz 10 k0 (by decide) (by decide))), zB]
  refine pW_eq (pc' := 20) (L' := [some (pm_r 8 7), some (pm_i (nI 7))]) (S' := []) (M' := (F, B0, (pm_u (pm_z (pm_u (pm_z R 9 7 none) 8 7 1 (some (9, 7))) 10 7 none) 8 7 2 (some (10, 7))), 53, 0)) 1 (fun call n => rfl) ?_
  refine pW_eq (pc' := 25) (L' := [some (pm_r 8 7), some (pm_i (nI 7))]) (S' := [pm_r 11 7, pm_r 8 7]) (M' := (pm_z F 11 7 0, pm_z B0 11 7 0, pm_z (pm_u (pm_z (pm_u (pm_z R 9 7 none) 8 7 1 (some (9, 7))) 10 7 none) 8 7 2 (some (10, 7))) 11 7 none, 54, 0)) 3 (fun call n => rfl) ?_
  rw [zF (F := F) (f := 11) (i := 7) (fun k0 => (hz 11 k0 (by decide) (by decide))), zB]
  refine pW_eq (pc' := 28) (L' := [some (pm_r 8 7), some (pm_i (nI 7))]) (S' := []) (M' := (F, B0, (pm_u (pm_z (pm_u (pm_z (pm_u (pm_z R 9 7 none) 8 7 1 (some (9, 7))) 10 7 none) 8 7 2 (some (10, 7))) 11 7 none) 8 7 3 (some (11, 7))), 54, 0)) 1 (fun call n => rfl) ?_
  refine pW_eq (pc' := 33) (L' := [some (pm_r 8 7), some (pm_i (nI 7))]) (S' := [pm_r 12 7, pm_r 8 7]) (M' := (pm_z F 12 7 0, pm_z B0 12 7 0, pm_z (pm_u (pm_z (pm_u (pm_z (pm_u (pm_z R 9 7 none) 8 7 1 (some (9, 7))) 10 7 none) 8 7 2 (some (10, 7))) 11 7 none) 8 7 3 (some (11, 7))) 12 7 none, 55, 0)) 3 (fun call n => rfl) ?_
  rw [zF (F := F) (f := 12) (i := 7) (fun k0 => (hz 12 k0 (by decide) (by decide))), zB]
  refine pW_eq (pc' := 36) (L' := [some (pm_r 8 7), some (pm_i (nI 7))]) (S' := []) (M' := (F, B0, (pm_u (pm_z (pm_u (pm_z (pm_u (pm_z (pm_u (pm_z R 9 7 none) 8 7 1 (some (9, 7))) 10 7 none) 8 7 2 (some (10, 7))) 11 7 none) 8 7 3 (some (11, 7))) 12 7 none) 8 7 4 (some (12, 7))), 55, 0)) 1 (fun call n => rfl) ?_
  refine pW_eq (pc' := 40) (L' := [some (pm_r 8 7), some (pm_i (nI 7))]) (S' := [pm_r 13 7, pm_r 8 7]) (M' := (pm_z F 13 7 0, pm_z B0 13 7 0, pm_z (pm_u (pm_z (pm_u (pm_z (pm_u (pm_z (pm_u (pm_z R 9 7 none) 8 7 1 (some (9, 7))) 10 7 none) 8 7 2 (some (10, 7))) 11 7 none) 8 7 3 (some (11, 7))) 12 7 none) 8 7 4 (some (12, 7))) 13 7 none, 56, 0)) 2 (fun call n => rfl) ?_
  rw [zF (F := F) (f := 13) (i := 7) (fun k0 => (hz 13 k0 (by decide) (by decide))), zB]
  refine pW_call (pc' := 41) (r := [pm_r 13 7, pm_r 8 7]) (L' := [some (pm_r 8 7), some (pm_i (nI 7))]) (M' := (F, B0, (pm_z (pm_u (pm_z (pm_u (pm_z (pm_u (pm_z (pm_u (pm_z R 9 7 none) 8 7 1 (some (9, 7))) 10 7 none) 8 7 2 (some (10, 7))) 11 7 none) 8 7 3 (some (11, 7))) 12 7 none) 8 7 4 (some (12, 7))) 13 7 none), 56, 0)) 2 (fun call n => rfl) (k106_7 (d := d) (fun k0 => (hz 13 k0 (by decide) (by decide)))) ?_
  refine pW_eq (pc' := 47) (L' := [some (pm_r 8 7), some (pm_i (nI 7))]) (S' := []) (M' := (F, B0, (pm_u (pm_z (pm_u (pm_z (pm_u (pm_z (pm_u (pm_z (pm_u (pm_z R 9 7 none) 8 7 1 (some (9, 7))) 10 7 none) 8 7 2 (some (10, 7))) 11 7 none) 8 7 3 (some (11, 7))) 12 7 none) 8 7 4 (some (12, 7))) 13 7 none) 8 7 5 (some (13, 7))), 56, 0)) 1 (fun call n => rfl) ?_
  refine pW_eq (pc' := 52) (L' := [some (pm_r 8 7), some (pm_i (nI 7))]) (S' := []) (M' := ((pm_u F 8 7 6 (nI 0)), B0, (pm_u (pm_z (pm_u (pm_z (pm_u (pm_z (pm_u (pm_z (pm_u (pm_z R 9 7 none) 8 7 1 (some (9, 7))) 10 7 none) 8 7 2 (some (10, 7))) 11 7 none) 8 7 3 (some (11, 7))) 12 7 none) 8 7 4 (some (12, 7))) 13 7 none) 8 7 5 (some (13, 7))), 56, 0)) 3 (fun call n => rfl) ?_
  rw [u_id (A := F) (f := 8) (i := 7) (k := 6) (v := nI 0) (hz 8 6 (by decide) (by decide))]
  refine pW_eq (pc' := 57) (L' := [some (pm_r 8 7), some (pm_i (nI 7))]) (S' := []) (M' := ((pm_u F 8 7 7 (-nI 1)), B0, (pm_u (pm_z (pm_u (pm_z (pm_u (pm_z (pm_u (pm_z (pm_u (pm_z R 9 7 none) 8 7 1 (some (9, 7))) 10 7 none) 8 7 2 (some (10, 7))) 11 7 none) 8 7 3 (some (11, 7))) 12 7 none) 8 7 4 (some (12, 7))) 13 7 none) 8 7 5 (some (13, 7))), 56, 0)) 3 (fun call n => rfl) ?_
  refine pW_eq (pc' := 62) (L' := [some (pm_r 8 7), some (pm_i (nI 7))]) (S' := []) (M' := ((pm_u (pm_u F 8 7 7 (-nI 1)) 8 7 8 (nI 0)), B0, (pm_u (pm_z (pm_u (pm_z (pm_u (pm_z (pm_u (pm_z (pm_u (pm_z R 9 7 none) 8 7 1 (some (9, 7))) 10 7 none) 8 7 2 (some (10, 7))) 11 7 none) 8 7 3 (some (11, 7))) 12 7 none) 8 7 4 (some (12, 7))) 13 7 none) 8 7 5 (some (13, 7))), 56, 0)) 3 (fun call n => rfl) ?_
  rw [u_id (A := (pm_u F 8 7 7 (-nI 1))) (f := 8) (i := 7) (k := 8) (v := nI 0) ((u_ne (by omega)).trans (hz 8 8 (by decide) (by decide)))]
  refine pW_eq (pc' := 67) (L' := [some (pm_r 8 7), some (pm_i (nI 7))]) (S' := []) (M' := ((pm_u (pm_u F 8 7 7 (-nI 1)) 8 7 9 (nI 0)), B0, (pm_u (pm_z (pm_u (pm_z (pm_u (pm_z (pm_u (pm_z (pm_u (pm_z R 9 7 none) 8 7 1 (some (9, 7))) 10 7 none) 8 7 2 (some (10, 7))) 11 7 none) 8 7 3 (some (11, 7))) 12 7 none) 8 7 4 (some (12, 7))) 13 7 none) 8 7 5 (some (13, 7))), 56, 0)) 3 (fun call n => rfl) ?_
  rw [u_id (A := (pm_u F 8 7 7 (-nI 1))) (f := 8) (i := 7) (k := 9) (v := nI 0) ((u_ne (by omega)).trans (hz 8 9 (by decide) (by decide)))]
  refine pW_eq (pc' := 72) (L' := [some (pm_r 8 7), some (pm_i (nI 7))]) (S' := []) (M' := ((pm_u (pm_u F 8 7 7 (-nI 1)) 8 7 10 (nI 0)), B0, (pm_u (pm_z (pm_u (pm_z (pm_u (pm_z (pm_u (pm_z (pm_u (pm_z R 9 7 none) 8 7 1 (some (9, 7))) 10 7 none) 8 7 2 (some (10, 7))) 11 7 none) 8 7 3 (some (11, 7))) 12 7 none) 8 7 4 (some (12, 7))) 13 7 none) 8 7 5 (some (13, 7))), 56, 0)) 3 (fun call n => rfl) ?_
  rw [u_id (A := (pm_u F 8 7 7 (-nI 1))) (f := 8) (i := 7) (k := 10) (v := nI 0) ((u_ne (by omega)).trans (hz 8 10 (by decide) (by decide)))]
  refine pW_eq (pc' := 77) (L' := [some (pm_r 8 7), some (pm_i (nI 7))]) (S' := []) (M' := ((pm_u (pm_u F 8 7 7 (-nI 1)) 8 7 11 (nI 0)), B0, (pm_u (pm_z (pm_u (pm_z (pm_u (pm_z (pm_u (pm_z (pm_u (pm_z R 9 7 none) 8 7 1 (some (9, 7))) 10 7 none) 8 7 2 (some (10, 7))) 11 7 none) 8 7 3 (some (11, 7))) 12 7 none) 8 7 4 (some (12, 7))) 13 7 none) 8 7 5 (some (13, 7))), 56, 0)) 3 (fun call n => rfl) ?_
  rw [u_id (A := (pm_u F 8 7 7 (-nI 1))) (f := 8) (i := 7) (k := 11) (v := nI 0) ((u_ne (by omega)).trans (hz 8 11 (by decide) (by decide)))]
  refine pW_eq (pc' := 82) (L' := [some (pm_r 8 7), some (pm_i (nI 7))]) (S' := []) (M' := ((pm_u (pm_u F 8 7 7 (-nI 1)) 8 7 12 (nI 0)), B0, (pm_u (pm_z (pm_u (pm_z (pm_u (pm_z (pm_u (pm_z (pm_u (pm_z R 9 7 none) 8 7 1 (some (9, 7))) 10 7 none) 8 7 2 (some (10, 7))) 11 7 none) 8 7 3 (some (11, 7))) 12 7 none) 8 7 4 (some (12, 7))) 13 7 none) 8 7 5 (some (13, 7))), 56, 0)) 3 (fun call n => rfl) ?_
  rw [u_id (A := (pm_u F 8 7 7 (-nI 1))) (f := 8) (i := 7) (k := 12) (v := nI 0) ((u_ne (by omega)).trans (hz 8 12 (by decide) (by decide)))]
  refine pW_eq (pc' := 87) (L' := [some (pm_r 8 7), some (pm_i (nI 7))]) (S' := []) (M' := ((pm_u (pm_u F 8 7 7 (-nI 1)) 8 7 13 (nI 0)), B0, (pm_u (pm_z (pm_u (pm_z (pm_u (pm_z (pm_u (pm_z (pm_u (pm_z R 9 7 none) 8 7 1 (some (9, 7))) 10 7 none) 8 7 2 (some (10, 7))) 11 7 none) 8 7 3 (some (11, 7))) 12 7 none) 8 7 4 (some (12, 7))) 13 7 none) 8 7 5 (some (13, 7))), 56, 0)) 3 (fun call n => rfl) ?_
  rw [u_id (A := (pm_u F 8 7 7 (-nI 1))) (f := 8) (i := 7) (k := 13) (v := nI 0) ((u_ne (by omega)).trans (hz 8 13 (by decide) (by decide)))]
  refine pW_eq (pc' := 92) (L' := [some (pm_r 8 7), some (pm_i (nI 7))]) (S' := []) (M' := ((pm_u (pm_u F 8 7 7 (-nI 1)) 8 7 14 (nI 0)), B0, (pm_u (pm_z (pm_u (pm_z (pm_u (pm_z (pm_u (pm_z (pm_u (pm_z R 9 7 none) 8 7 1 (some (9, 7))) 10 7 none) 8 7 2 (some (10, 7))) 11 7 none) 8 7 3 (some (11, 7))) 12 7 none) 8 7 4 (some (12, 7))) 13 7 none) 8 7 5 (some (13, 7))), 56, 0)) 3 (fun call n => rfl) ?_
  rw [u_id (A := (pm_u F 8 7 7 (-nI 1))) (f := 8) (i := 7) (k := 14) (v := nI 0) ((u_ne (by omega)).trans (hz 8 14 (by decide) (by decide)))]
  refine pW_eq (pc' := 97) (L' := [some (pm_r 8 7), some (pm_i (nI 7))]) (S' := []) (M' := ((pm_u (pm_u F 8 7 7 (-nI 1)) 8 7 15 (nI 0)), B0, (pm_u (pm_z (pm_u (pm_z (pm_u (pm_z (pm_u (pm_z (pm_u (pm_z R 9 7 none) 8 7 1 (some (9, 7))) 10 7 none) 8 7 2 (some (10, 7))) 11 7 none) 8 7 3 (some (11, 7))) 12 7 none) 8 7 4 (some (12, 7))) 13 7 none) 8 7 5 (some (13, 7))), 56, 0)) 3 (fun call n => rfl) ?_
  rw [u_id (A := (pm_u F 8 7 7 (-nI 1))) (f := 8) (i := 7) (k := 15) (v := nI 0) ((u_ne (by omega)).trans (hz 8 15 (by decide) (by decide)))]
  refine pW_eq (pc' := 102) (L' := [some (pm_r 8 7), some (pm_i (nI 7))]) (S' := []) (M' := ((pm_u (pm_u F 8 7 7 (-nI 1)) 8 7 0 (nI 7)), B0, (pm_u (pm_z (pm_u (pm_z (pm_u (pm_z (pm_u (pm_z (pm_u (pm_z R 9 7 none) 8 7 1 (some (9, 7))) 10 7 none) 8 7 2 (some (10, 7))) 11 7 none) 8 7 3 (some (11, 7))) 12 7 none) 8 7 4 (some (12, 7))) 13 7 none) 8 7 5 (some (13, 7))), 56, 0)) 3 (fun call n => rfl) ?_
  refine pW_ret 1 (fun call n => rfl) ?_
  rfl
theorem k102_4_0 (hz : ∀ f k, f < 8 → F f 0 k = nI 0) : pE ns (d + 1) 102 [pm_r 4 0, pm_i (nI 12)] (F, B0, R, 57, 0) (.inl none, (F, B0, (pm_u (pm_z R 5 0 none) 4 0 0 (some (5, 0))), 58, 0)) := by
  refine en rfl ?_
  refine pW_eq (pc' := 9) (L' := [some (pm_r 4 0), some (pm_i (nI 12))]) (S' := []) (M' := ((pm_u F 4 0 1 (nI 0)), B0, R, 57, 0)) 5 (fun call n => rfl) ?_
  rw [u_id (A := F) (f := 4) (i := 0) (k := 1) (v := nI 0) (hz 4 1 (by decide))]
  refine pW_eq (pc' := 13) (L' := [some (pm_r 4 0), some (pm_i (nI 12))]) (S' := [pm_r 5 0, pm_r 4 0]) (M' := (pm_z F 5 0 0, pm_z B0 5 0 0, pm_z R 5 0 none, 58, 0)) 3 (fun call n => rfl) ?_
  rw [zF (F := F) (f := 5) (i := 0) (fun k0 => (hz 5 k0 (by decide))), zB]
  refine pW_eq (pc' := 16) (L' := [some (pm_r 4 0), some (pm_i (nI 12))]) (S' := []) (M' := (F, B0, (pm_u (pm_z R 5 0 none) 4 0 0 (some (5, 0))), 58, 0)) 1 (fun call n => rfl) ?_
  refine pW_ret 1 (fun call n => rfl) ?_
  rfl
theorem k102_4_1 (hz : ∀ f k, f < 8 → F f 1 k = nI 0) : pE ns (d + 1) 102 [pm_r 4 1, pm_i (nI 12)] (F, B0, R, 59, 0) (.inl none, (F, B0, (pm_u (pm_z R 5 1 none) 4 1 0 (some (5, 1))), 60, 0)) := by
  refine en rfl ?_
  refine pW_eq (pc' := 9) (L' := [some (pm_r 4 1), some (pm_i (nI 12))]) (S' := []) (M' := ((pm_u F 4 1 1 (nI 0)), B0, R, 59, 0)) 5 (fun call n => rfl) ?_
  rw [u_id (A := F) (f := 4) (i := 1) (k := 1) (v := nI 0) (hz 4 1 (by decide))]
  refine pW_eq (pc' := 13) (L' := [some (pm_r 4 1), some (pm_i (nI 12))]) (S' := [pm_r 5 1, pm_r 4 1]) (M' := (pm_z F 5 1 0, pm_z B0 5 1 0, pm_z R 5 1 none, 60, 0)) 3 (fun call n => rfl) ?_
  rw [zF (F := F) (f := 5) (i := 1) (fun k0 => (hz 5 k0 (by decide))), zB]
  refine pW_eq (pc' := 16) (L' := [some (pm_r 4 1), some (pm_i (nI 12))]) (S' := []) (M' := (F, B0, (pm_u (pm_z R 5 1 none) 4 1 0 (some (5, 1))), 60, 0)) 1 (fun call n => rfl) ?_
  refine pW_ret 1 (fun call n => rfl) ?_
  rfl
theorem k102_4_2 (hz : ∀ f k, f < 8 → F f 2 k = nI 0) : pE ns (d + 1) 102 [pm_r 4 2, pm_i (nI 12)] (F, B0, R, 61, 0) (.inl none, (F, B0, (pm_u (pm_z R 5 2 none) 4 2 0 (some (5, 2))), 62, 0)) := by
  refine en rfl ?_
  refine pW_eq (pc' := 9) (L' := [some (pm_r 4 2), some (pm_i (nI 12))]) (S' := []) (M' := ((pm_u F 4 2 1 (nI 0)), B0, R, 61, 0)) 5 (fun call n => rfl) ?_
  rw [u_id (A := F) (f := 4) (i := 2) (k := 1) (v := nI 0) (hz 4 1 (by decide))]
  refine pW_eq (pc' := 13) (L' := [some (pm_r 4 2), some (pm_i (nI 12))]) (S' := [pm_r 5 2, pm_r 4 2]) (M' := (pm_z F 5 2 0, pm_z B0 5 2 0, pm_z R 5 2 none, 62, 0)) 3 (fun call n => rfl) ?_
  rw [zF (F := F) (f := 5) (i := 2) (fun k0 => (hz 5 k0 (by decide))), zB]
  refine pW_eq (pc' := 16) (L' := [some (pm_r 4 2), some (pm_i (nI 12))]) (S' := []) (M' := (F, B0, (pm_u (pm_z R 5 2 none) 4 2 0 (some (5, 2))), 62, 0)) 1 (fun call n => rfl) ?_
  refine pW_ret 1 (fun call n => rfl) ?_
  rfl
theorem k102_4_3 (hz : ∀ f k, f < 8 → F f 3 k = nI 0) : pE ns (d + 1) 102 [pm_r 4 3, pm_i (nI 12)] (F, B0, R, 63, 0) (.inl none, (F, B0, (pm_u (pm_z R 5 3 none) 4 3 0 (some (5, 3))), 64, 0)) := by
  refine en rfl ?_
  refine pW_eq (pc' := 9) (L' := [some (pm_r 4 3), some (pm_i (nI 12))]) (S' := []) (M' := ((pm_u F 4 3 1 (nI 0)), B0, R, 63, 0)) 5 (fun call n => rfl) ?_
  rw [u_id (A := F) (f := 4) (i := 3) (k := 1) (v := nI 0) (hz 4 1 (by decide))]
  refine pW_eq (pc' := 13) (L' := [some (pm_r 4 3), some (pm_i (nI 12))]) (S' := [pm_r 5 3, pm_r 4 3]) (M' := (pm_z F 5 3 0, pm_z B0 5 3 0, pm_z R 5 3 none, 64, 0)) 3 (fun call n => rfl) ?_
  rw [zF (F := F) (f := 5) (i := 3) (fun k0 => (hz 5 k0 (by decide))), zB]
  refine pW_eq (pc' := 16) (L' := [some (pm_r 4 3), some (pm_i (nI 12))]) (S' := []) (M' := (F, B0, (pm_u (pm_z R 5 3 none) 4 3 0 (some (5, 3))), 64, 0)) 1 (fun call n => rfl) ?_
  refine pW_ret 1 (fun call n => rfl) ?_
  rfl
theorem k102_4_4 (hz : ∀ f k, f < 8 → F f 4 k = nI 0) : pE ns (d + 1) 102 [pm_r 4 4, pm_i (nI 12)] (F, B0, R, 65, 0) (.inl none, (F, B0, (pm_u (pm_z R 5 4 none) 4 4 0 (some (5, 4))), 66, 0)) := by
  refine en rfl ?_
  refine pW_eq (pc' := 9) (L' := [some (pm_r 4 4), some (pm_i (nI 12))]) (S' := []) (M' := ((pm_u F 4 4 1 (nI 0)), B0, R, 65, 0)) 5 (fun call n => rfl) ?_
  rw [u_id (A := F) (f := 4) (i := 4) (k := 1) (v := nI 0) (hz 4 1 (by decide))]
  refine pW_eq (pc' := 13) (L' := [some (pm_r 4 4), some (pm_i (nI 12))]) (S' := [pm_r 5 4, pm_r 4 4]) (M' := (pm_z F 5 4 0, pm_z B0 5 4 0, pm_z R 5 4 none, 66, 0)) 3 (fun call n => rfl) ?_
  rw [zF (F := F) (f := 5) (i := 4) (fun k0 => (hz 5 k0 (by decide))), zB]
  refine pW_eq (pc' := 16) (L' := [some (pm_r 4 4), some (pm_i (nI 12))]) (S' := []) (M' := (F, B0, (pm_u (pm_z R 5 4 none) 4 4 0 (some (5, 4))), 66, 0)) 1 (fun call n => rfl) ?_
  refine pW_ret 1 (fun call n => rfl) ?_
  rfl
theorem k102_4_5 (hz : ∀ f k, f < 8 → F f 5 k = nI 0) : pE ns (d + 1) 102 [pm_r 4 5, pm_i (nI 12)] (F, B0, R, 67, 0) (.inl none, (F, B0, (pm_u (pm_z R 5 5 none) 4 5 0 (some (5, 5))), 68, 0)) := by
  refine en rfl ?_
  refine pW_eq (pc' := 9) (L' := [some (pm_r 4 5), some (pm_i (nI 12))]) (S' := []) (M' := ((pm_u F 4 5 1 (nI 0)), B0, R, 67, 0)) 5 (fun call n => rfl) ?_
  rw [u_id (A := F) (f := 4) (i := 5) (k := 1) (v := nI 0) (hz 4 1 (by decide))]
  refine pW_eq (pc' := 13) (L' := [some (pm_r 4 5), some (pm_i (nI 12))]) (S' := [pm_r 5 5, pm_r 4 5]) (M' := (pm_z F 5 5 0, pm_z B0 5 5 0, pm_z R 5 5 none, 68, 0)) 3 (fun call n => rfl) ?_
  rw [zF (F := F) (f := 5) (i := 5) (fun k0 => (hz 5 k0 (by decide))), zB]
  refine pW_eq (pc' := 16) (L' := [some (pm_r 4 5), some (pm_i (nI 12))]) (S' := []) (M' := (F, B0, (pm_u (pm_z R 5 5 none) 4 5 0 (some (5, 5))), 68, 0)) 1 (fun call n => rfl) ?_
  refine pW_ret 1 (fun call n => rfl) ?_
  rfl
theorem k102_6_0 (hz : ∀ f k, f < 8 → F f 0 k = nI 0) : pE ns (d + 1) 102 [pm_r 6 0, pm_i (nI 24)] (F, B0, R, 5, 0) (.inl none, (F, B0, (pm_u (pm_z R 7 0 none) 6 0 0 (some (7, 0))), 6, 0)) := by
  refine en rfl ?_
  refine pW_eq (pc' := 9) (L' := [some (pm_r 6 0), some (pm_i (nI 24))]) (S' := []) (M' := ((pm_u F 6 0 1 (nI 0)), B0, R, 5, 0)) 5 (fun call n => rfl) ?_
  rw [u_id (A := F) (f := 6) (i := 0) (k := 1) (v := nI 0) (hz 6 1 (by decide))]
  refine pW_eq (pc' := 13) (L' := [some (pm_r 6 0), some (pm_i (nI 24))]) (S' := [pm_r 7 0, pm_r 6 0]) (M' := (pm_z F 7 0 0, pm_z B0 7 0 0, pm_z R 7 0 none, 6, 0)) 3 (fun call n => rfl) ?_
  rw [zF (F := F) (f := 7) (i := 0) (fun k0 => (hz 7 k0 (by decide))), zB]
  refine pW_eq (pc' := 16) (L' := [some (pm_r 6 0), some (pm_i (nI 24))]) (S' := []) (M' := (F, B0, (pm_u (pm_z R 7 0 none) 6 0 0 (some (7, 0))), 6, 0)) 1 (fun call n => rfl) ?_
  refine pW_ret 1 (fun call n => rfl) ?_
  rfl
def RTt (R : Nat → Nat → Nat → Option (Nat × Nat)) : Nat → Nat → Nat → Option (Nat × Nat) := (pm_u (pm_z (pm_u (pm_z (pm_u (pm_u (pm_z (pm_z R 6 0 none) 7 0 none) 6 0 0 (some (7, 0))) 3 0 0 (some (6, 0))) 14 0 none) 3 0 1 (some (14, 0))) 15 0 none) 3 0 2 (some (15, 0)))
theorem k123 (hz : ∀ f k, f < 20 → F f 0 k = nI 0) : pE ns (d + 2) 123 [pm_r 3 0] (F, B0, R, 4, 0) (.inl none, (F, B0, RTt R, 8, 0)) := by
  refine en rfl ?_
  refine pW_eq (pc' := 8) (L' := [some (pm_r 3 0)]) (S' := [pm_r 6 0, pm_r 3 0]) (M' := (pm_z F 6 0 0, pm_z B0 6 0 0, pm_z R 6 0 none, 5, 0)) 4 (fun call n => rfl) ?_
  rw [zF (F := F) (f := 6) (i := 0) (fun k0 => (hz 6 k0 (by decide))), zB]
  refine pW_call (pc' := 11) (r := [pm_r 6 0, pm_r 3 0]) (L' := [some (pm_r 3 0)]) (M' := (F, B0, (pm_z R 6 0 none), 5, 0)) 3 (fun call n => rfl) (k102_6_0 (d := d) (fun f0 k0 h0 => hz f0 k0 (by omega))) ?_
  refine pW_eq (pc' := 17) (L' := [some (pm_r 3 0)]) (S' := []) (M' := (F, B0, (pm_u (pm_u (pm_z (pm_z R 6 0 none) 7 0 none) 6 0 0 (some (7, 0))) 3 0 0 (some (6, 0))), 6, 0)) 1 (fun call n => rfl) ?_
  refine pW_eq (pc' := 22) (L' := [some (pm_r 3 0)]) (S' := [pm_r 14 0, pm_r 3 0]) (M' := (pm_z F 14 0 0, pm_z B0 14 0 0, pm_z (pm_u (pm_u (pm_z (pm_z R 6 0 none) 7 0 none) 6 0 0 (some (7, 0))) 3 0 0 (some (6, 0))) 14 0 none, 7, 0)) 3 (fun call n => rfl) ?_
  rw [zF (F := F) (f := 14) (i := 0) (fun k0 => (hz 14 k0 (by decide))), zB]
  refine pW_eq (pc' := 25) (L' := [some (pm_r 3 0)]) (S' := []) (M' := (F, B0, (pm_u (pm_z (pm_u (pm_u (pm_z (pm_z R 6 0 none) 7 0 none) 6 0 0 (some (7, 0))) 3 0 0 (some (6, 0))) 14 0 none) 3 0 1 (some (14, 0))), 7, 0)) 1 (fun call n => rfl) ?_
  refine pW_eq (pc' := 30) (L' := [some (pm_r 3 0)]) (S' := [pm_r 15 0, pm_r 3 0]) (M' := (pm_z F 15 0 0, pm_z B0 15 0 0, pm_z (pm_u (pm_z (pm_u (pm_u (pm_z (pm_z R 6 0 none) 7 0 none) 6 0 0 (some (7, 0))) 3 0 0 (some (6, 0))) 14 0 none) 3 0 1 (some (14, 0))) 15 0 none, 8, 0)) 3 (fun call n => rfl) ?_
  rw [zF (F := F) (f := 15) (i := 0) (fun k0 => (hz 15 k0 (by decide))), zB]
  refine pW_eq (pc' := 33) (L' := [some (pm_r 3 0)]) (S' := []) (M' := (F, B0, (pm_u (pm_z (pm_u (pm_z (pm_u (pm_u (pm_z (pm_z R 6 0 none) 7 0 none) 6 0 0 (some (7, 0))) 3 0 0 (some (6, 0))) 14 0 none) 3 0 1 (some (14, 0))) 15 0 none) 3 0 2 (some (15, 0))), 8, 0)) 1 (fun call n => rfl) ?_
  refine pW_eq (pc' := 38) (L' := [some (pm_r 3 0)]) (S' := []) (M' := ((pm_u F 3 0 3 (nI 0)), B0, (pm_u (pm_z (pm_u (pm_z (pm_u (pm_u (pm_z (pm_z R 6 0 none) 7 0 none) 6 0 0 (some (7, 0))) 3 0 0 (some (6, 0))) 14 0 none) 3 0 1 (some (14, 0))) 15 0 none) 3 0 2 (some (15, 0))), 8, 0)) 3 (fun call n => rfl) ?_
  rw [u_id (A := F) (f := 3) (i := 0) (k := 3) (v := nI 0) (hz 3 3 (by decide))]
  refine pW_eq (pc' := 43) (L' := [some (pm_r 3 0)]) (S' := []) (M' := ((pm_u F 3 0 4 (nI 0)), B0, (pm_u (pm_z (pm_u (pm_z (pm_u (pm_u (pm_z (pm_z R 6 0 none) 7 0 none) 6 0 0 (some (7, 0))) 3 0 0 (some (6, 0))) 14 0 none) 3 0 1 (some (14, 0))) 15 0 none) 3 0 2 (some (15, 0))), 8, 0)) 3 (fun call n => rfl) ?_
  rw [u_id (A := F) (f := 3) (i := 0) (k := 4) (v := nI 0) (hz 3 4 (by decide))]
  refine pW_eq (pc' := 48) (L' := [some (pm_r 3 0)]) (S' := []) (M' := ((pm_u F 3 0 5 (nI 0)), B0, (pm_u (pm_z (pm_u (pm_z (pm_u (pm_u (pm_z (pm_z R 6 0 none) 7 0 none) 6 0 0 (some (7, 0))) 3 0 0 (some (6, 0))) 14 0 none) 3 0 1 (some (14, 0))) 15 0 none) 3 0 2 (some (15, 0))), 8, 0)) 3 (fun call n => rfl) ?_
  rw [u_id (A := F) (f := 3) (i := 0) (k := 5) (v := nI 0) (hz 3 5 (by decide))]
  refine pW_eq (pc' := 53) (L' := [some (pm_r 3 0)]) (S' := []) (M' := ((pm_u F 3 0 6 (nI 0)), B0, (pm_u (pm_z (pm_u (pm_z (pm_u (pm_u (pm_z (pm_z R 6 0 none) 7 0 none) 6 0 0 (some (7, 0))) 3 0 0 (some (6, 0))) 14 0 none) 3 0 1 (some (14, 0))) 15 0 none) 3 0 2 (some (15, 0))), 8, 0)) 3 (fun call n => rfl) ?_
  rw [u_id (A := F) (f := 3) (i := 0) (k := 6) (v := nI 0) (hz 3 6 (by decide))]
  refine pW_ret 1 (fun call n => rfl) ?_
  rfl
end CT
