/-! @70.wp@ blocks, printed by program (wip/whole/gen/blk.py) -/
section BLK
variable {ns d x : Nat} {R : Nat → Nat → Nat → Option (Nat × Nat)} {Z A : Nat → Nat → Nat → Int32} {Y : Nat → Nat → Nat → Int64} {o : Int64} {c g : Nat → Int64} {G : Nat → Nat → Int32} {Q : pm_O × pm_M → Prop}
/-! 103 JobLayer$ByteRow.room -/
set_option maxRecDepth 20000 in
theorem b103_0 (hR : RS R) {i0 : Nat} (q0 : i0 < 6)  (k : Q (.inl (some (pm_i ((nI 12) - (A 4 i0 1)))), (mm x R Z Y o A c G g))) : pW ns d 103 0 [some (pm_r 4 i0)] [] (mm x R Z Y o A c G g) Q := by
  refine pW_eq 2 (pc' := 4) (L' := [some (pm_r 4 i0)]) (S' := [pm_r 5 i0]) (M' := (mm x R Z Y o A c G g)) (fun call n => ?_) ?_
  · refine Eq.trans (b := pm_g (mm x R Z Y o A c G g) 4 i0 (pm_go call ns d 103 n 4 [some (pm_r 4 i0)] [pm_a (R 4 i0 0)] (mm x R Z Y o A c G g))) rfl ?_
    refine (g_ok (f := 4) q0 rfl).trans ?_
    exact (congrArg (fun z => pm_go call ns d 103 n 4 [some (pm_r 4 i0)] [pm_a z] (mm x R Z Y o A c G g)) (rs_4_0 hR q0))
  refine pW_eq 1 (pc' := 5) (L' := [some (pm_r 4 i0)]) (S' := [pm_i (nI 12)]) (M' := (mm x R Z Y o A c G g)) (fun call n => ?_) ?_
  · refine Eq.trans (b := pm_g (mm x R Z Y o A c G g) 5 i0 (pm_go call ns d 103 n 5 [some (pm_r 4 i0)] [pm_i (nI 12)] (mm x R Z Y o A c G g))) rfl ?_
    refine (g_ok (f := 5) q0 rfl).trans ?_
    rfl
  refine pW_eq 2 (pc' := 9) (L' := [some (pm_r 4 i0)]) (S' := [pm_i (A 4 i0 1), pm_i (nI 12)]) (M' := (mm x R Z Y o A c G g)) (fun call n => ?_) ?_
  · refine Eq.trans (b := pm_g (mm x R Z Y o A c G g) 4 i0 (pm_go call ns d 103 n 9 [some (pm_r 4 i0)] [pm_i (A 4 i0 1), pm_i (nI 12)] (mm x R Z Y o A c G g))) rfl ?_
    refine (g_ok (f := 4) q0 rfl).trans ?_
    rfl
  refine pW_ret 2 (fun call n => ?_) k
  rfl
set_option maxRecDepth 20000 in
theorem b103_0a (hR : RS R)    (k : Q (.inl (some (pm_i ((nI 24) - (A 6 0 1)))), (mm x R Z Y o A c G g))) : pW ns d 103 0 [some (pm_r 6 0)] [] (mm x R Z Y o A c G g) Q := by
  refine pW_eq 2 (pc' := 4) (L' := [some (pm_r 6 0)]) (S' := [pm_r 7 0]) (M' := (mm x R Z Y o A c G g)) (fun call n => ?_) ?_
  · refine Eq.trans (b := pm_g (mm x R Z Y o A c G g) 6 0 (pm_go call ns d 103 n 4 [some (pm_r 6 0)] [pm_a (R 6 0 0)] (mm x R Z Y o A c G g))) rfl ?_
    refine (g_ok (f := 6) (by decide) rfl).trans ?_
    exact (congrArg (fun z => pm_go call ns d 103 n 4 [some (pm_r 6 0)] [pm_a z] (mm x R Z Y o A c G g)) (rs_6_0 hR))
  refine pW_eq 1 (pc' := 5) (L' := [some (pm_r 6 0)]) (S' := [pm_i (nI 24)]) (M' := (mm x R Z Y o A c G g)) (fun call n => ?_) ?_
  · refine Eq.trans (b := pm_g (mm x R Z Y o A c G g) 7 0 (pm_go call ns d 103 n 5 [some (pm_r 6 0)] [pm_i (nI 24)] (mm x R Z Y o A c G g))) rfl ?_
    refine (g_ok (f := 7) (by decide) rfl).trans ?_
    rfl
  refine pW_eq 2 (pc' := 9) (L' := [some (pm_r 6 0)]) (S' := [pm_i (A 6 0 1), pm_i (nI 24)]) (M' := (mm x R Z Y o A c G g)) (fun call n => ?_) ?_
  · refine Eq.trans (b := pm_g (mm x R Z Y o A c G g) 6 0 (pm_go call ns d 103 n 9 [some (pm_r 6 0)] [pm_i (A 6 0 1), pm_i (nI 24)] (mm x R Z Y o A c G g))) rfl ?_
    refine (g_ok (f := 6) (by decide) rfl).trans ?_
    rfl
  refine pW_ret 2 (fun call n => ?_) k
  rfl
/-! 104 JobLayer$ByteRow.add -/
set_option maxRecDepth 20000 in
theorem b104_0 (hR : RS R) {i0 : Nat} {v1 : Int32} (q0 : i0 < 6)  (k1 : nI 12 ≤ A 4 i0 1 → pW ns d 104 32 [some (pm_r 4 i0), some (pm_i v1)] [] (mm x R Z Y o A c G g) Q) (k2 : ¬ (nI 12 ≤ A 4 i0 1) → pW ns d 104 12 [some (pm_r 4 i0), some (pm_i v1)] [] (mm x R Z Y o A c G g) Q) : pW ns d 104 0 [some (pm_r 4 i0), some (pm_i v1)] [] (mm x R Z Y o A c G g) Q := by
  refine pW_eq 2 (pc' := 4) (L' := [some (pm_r 4 i0), some (pm_i v1)]) (S' := [pm_i (A 4 i0 1)]) (M' := (mm x R Z Y o A c G g)) (fun call n => ?_) ?_
  · refine Eq.trans (b := pm_g (mm x R Z Y o A c G g) 4 i0 (pm_go call ns d 104 n 4 [some (pm_r 4 i0), some (pm_i v1)] [pm_i (A 4 i0 1)] (mm x R Z Y o A c G g))) rfl ?_
    refine (g_ok (f := 4) q0 rfl).trans ?_
    rfl
  refine pW_eq 2 (pc' := 8) (L' := [some (pm_r 4 i0), some (pm_i v1)]) (S' := [pm_r 5 i0, pm_i (A 4 i0 1)]) (M' := (mm x R Z Y o A c G g)) (fun call n => ?_) ?_
  · refine Eq.trans (b := pm_g (mm x R Z Y o A c G g) 4 i0 (pm_go call ns d 104 n 8 [some (pm_r 4 i0), some (pm_i v1)] [pm_a (R 4 i0 0), pm_i (A 4 i0 1)] (mm x R Z Y o A c G g))) rfl ?_
    refine (g_ok (f := 4) q0 rfl).trans ?_
    exact (congrArg (fun z => pm_go call ns d 104 n 8 [some (pm_r 4 i0), some (pm_i v1)] [pm_a z, pm_i (A 4 i0 1)] (mm x R Z Y o A c G g)) (rs_4_0 hR q0))
  refine pW_eq 1 (pc' := 9) (L' := [some (pm_r 4 i0), some (pm_i v1)]) (S' := [pm_i (nI 12), pm_i (A 4 i0 1)]) (M' := (mm x R Z Y o A c G g)) (fun call n => ?_) ?_
  · refine Eq.trans (b := pm_g (mm x R Z Y o A c G g) 5 i0 (pm_go call ns d 104 n 9 [some (pm_r 4 i0), some (pm_i v1)] [pm_i (nI 12), pm_i (A 4 i0 1)] (mm x R Z Y o A c G g))) rfl ?_
    refine (g_ok (f := 5) q0 rfl).trans ?_
    rfl
  exact pW_if 1 (c := nI 12 ≤ A 4 i0 1) (fun call n => rfl) k1 k2
set_option maxRecDepth 20000 in
theorem b104_0a (hR : RS R) {v1 : Int32}   (k1 : nI 24 ≤ A 6 0 1 → pW ns d 104 32 [some (pm_r 6 0), some (pm_i v1)] [] (mm x R Z Y o A c G g) Q) (k2 : ¬ (nI 24 ≤ A 6 0 1) → pW ns d 104 12 [some (pm_r 6 0), some (pm_i v1)] [] (mm x R Z Y o A c G g) Q) : pW ns d 104 0 [some (pm_r 6 0), some (pm_i v1)] [] (mm x R Z Y o A c G g) Q := by
  refine pW_eq 2 (pc' := 4) (L' := [some (pm_r 6 0), some (pm_i v1)]) (S' := [pm_i (A 6 0 1)]) (M' := (mm x R Z Y o A c G g)) (fun call n => ?_) ?_
  · refine Eq.trans (b := pm_g (mm x R Z Y o A c G g) 6 0 (pm_go call ns d 104 n 4 [some (pm_r 6 0), some (pm_i v1)] [pm_i (A 6 0 1)] (mm x R Z Y o A c G g))) rfl ?_
    refine (g_ok (f := 6) (by decide) rfl).trans ?_
    rfl
  refine pW_eq 2 (pc' := 8) (L' := [some (pm_r 6 0), some (pm_i v1)]) (S' := [pm_r 7 0, pm_i (A 6 0 1)]) (M' := (mm x R Z Y o A c G g)) (fun call n => ?_) ?_
  · refine Eq.trans (b := pm_g (mm x R Z Y o A c G g) 6 0 (pm_go call ns d 104 n 8 [some (pm_r 6 0), some (pm_i v1)] [pm_a (R 6 0 0), pm_i (A 6 0 1)] (mm x R Z Y o A c G g))) rfl ?_
    refine (g_ok (f := 6) (by decide) rfl).trans ?_
    exact (congrArg (fun z => pm_go call ns d 104 n 8 [some (pm_r 6 0), some (pm_i v1)] [pm_a z, pm_i (A 6 0 1)] (mm x R Z Y o A c G g)) (rs_6_0 hR))
  refine pW_eq 1 (pc' := 9) (L' := [some (pm_r 6 0), some (pm_i v1)]) (S' := [pm_i (nI 24), pm_i (A 6 0 1)]) (M' := (mm x R Z Y o A c G g)) (fun call n => ?_) ?_
  · refine Eq.trans (b := pm_g (mm x R Z Y o A c G g) 7 0 (pm_go call ns d 104 n 9 [some (pm_r 6 0), some (pm_i v1)] [pm_i (nI 24), pm_i (A 6 0 1)] (mm x R Z Y o A c G g))) rfl ?_
    refine (g_ok (f := 7) (by decide) rfl).trans ?_
    rfl
  exact pW_if 1 (c := nI 24 ≤ A 6 0 1) (fun call n => rfl) k1 k2
set_option maxRecDepth 20000 in
theorem b104_32 (hR : RS R) {u0 : Option pm_V} {u1 : Option pm_V}   (k : Q (.inl none, (mm x R Z Y o A c G g))) : pW ns d 104 32 [u0, u1] [] (mm x R Z Y o A c G g) Q := by
  refine pW_ret 1 (fun call n => ?_) k
  rfl
set_option maxRecDepth 20000 in
theorem b104_12 (hR : RS R) {i0 : Nat} {v1 : Int32} {j1 : Nat} (q0 : i0 < 6) (e1 : A 4 i0 1 = nI j1) (l1 : j1 < 12)  (k : Q (.inl none, (mm x R Z Y o (pm_u (pm_u A 5 i0 j1 v1) 4 i0 1 (((pm_u A 5 i0 j1 v1) 4 i0 1) + (nI 1))) c G g))) : pW ns d 104 12 [some (pm_r 4 i0), some (pm_i v1)] [] (mm x R Z Y o A c G g) Q := by
  refine pW_eq 2 (pc' := 16) (L' := [some (pm_r 4 i0), some (pm_i v1)]) (S' := [pm_r 5 i0]) (M' := (mm x R Z Y o A c G g)) (fun call n => ?_) ?_
  · refine Eq.trans (b := pm_g (mm x R Z Y o A c G g) 4 i0 (pm_go call ns d 104 n 16 [some (pm_r 4 i0), some (pm_i v1)] [pm_a (R 4 i0 0)] (mm x R Z Y o A c G g))) rfl ?_
    refine (g_ok (f := 4) q0 rfl).trans ?_
    exact (congrArg (fun z => pm_go call ns d 104 n 16 [some (pm_r 4 i0), some (pm_i v1)] [pm_a z] (mm x R Z Y o A c G g)) (rs_4_0 hR q0))
  refine pW_eq 2 (pc' := 20) (L' := [some (pm_r 4 i0), some (pm_i v1)]) (S' := [pm_i (A 4 i0 1), pm_r 5 i0]) (M' := (mm x R Z Y o A c G g)) (fun call n => ?_) ?_
  · refine Eq.trans (b := pm_g (mm x R Z Y o A c G g) 4 i0 (pm_go call ns d 104 n 20 [some (pm_r 4 i0), some (pm_i v1)] [pm_i (A 4 i0 1), pm_r 5 i0] (mm x R Z Y o A c G g))) rfl ?_
    refine (g_ok (f := 4) q0 rfl).trans ?_
    rfl
  refine pW_eq 2 (pc' := 22) (L' := [some (pm_r 4 i0), some (pm_i v1)]) (S' := []) (M' := (mm x R Z Y o (pm_u A 5 i0 j1 v1) c G g)) (fun call n => ?_) ?_
  · refine Eq.trans (b := pm_g (mm x R Z Y o A c G g) 5 i0 (pm_ix (A 4 i0 1) 12 (fun jx => pm_go call ns d 104 n 22 [some (pm_r 4 i0), some (pm_i v1)] [] (pm_u (mA Z A G) 5 i0 jx v1, mB Y o c g, R, pm_tot, x)))) rfl ?_
    refine (g_ok (f := 5) q0 rfl).trans ?_
    refine (ix_ok (j := j1) e1 l1 (by decide)).trans ?_
    exact (congrArg (fun z => pm_go call ns d 104 n 22 [some (pm_r 4 i0), some (pm_i v1)] [] (z, mB Y o c g, R, pm_tot, x)) (uA (by decide)))
  refine pW_eq 3 (pc' := 27) (L' := [some (pm_r 4 i0), some (pm_i v1)]) (S' := [pm_i ((pm_u A 5 i0 j1 v1) 4 i0 1), pm_r 4 i0]) (M' := (mm x R Z Y o (pm_u A 5 i0 j1 v1) c G g)) (fun call n => ?_) ?_
  · refine Eq.trans (b := pm_g (mm x R Z Y o (pm_u A 5 i0 j1 v1) c G g) 4 i0 (pm_go call ns d 104 n 27 [some (pm_r 4 i0), some (pm_i v1)] [pm_i ((pm_u A 5 i0 j1 v1) 4 i0 1), pm_r 4 i0] (mm x R Z Y o (pm_u A 5 i0 j1 v1) c G g))) rfl ?_
    refine (g_ok (f := 4) q0 rfl).trans ?_
    rfl
  refine pW_eq 3 (pc' := 32) (L' := [some (pm_r 4 i0), some (pm_i v1)]) (S' := []) (M' := (mm x R Z Y o (pm_u (pm_u A 5 i0 j1 v1) 4 i0 1 (((pm_u A 5 i0 j1 v1) 4 i0 1) + (nI 1))) c G g)) (fun call n => ?_) ?_
  · refine Eq.trans (b := pm_g (mm x R Z Y o (pm_u A 5 i0 j1 v1) c G g) 4 i0 (pm_go call ns d 104 n 32 [some (pm_r 4 i0), some (pm_i v1)] [] (pm_u (mA Z (pm_u A 5 i0 j1 v1) G) 4 i0 1 (((pm_u A 5 i0 j1 v1) 4 i0 1) + (nI 1)), mB Y o c g, R, pm_tot, x))) rfl ?_
    refine (g_ok (f := 4) q0 rfl).trans ?_
    exact (congrArg (fun z => pm_go call ns d 104 n 32 [some (pm_r 4 i0), some (pm_i v1)] [] (z, mB Y o c g, R, pm_tot, x)) (uA (by decide)))
  refine pW_ret 1 (fun call n => ?_) k
  rfl
set_option maxRecDepth 20000 in
theorem b104_12a (hR : RS R) {v1 : Int32} {j1 : Nat} (e1 : A 6 0 1 = nI j1) (l1 : j1 < 24)  (k : Q (.inl none, (mm x R Z Y o (pm_u (pm_u A 7 0 j1 v1) 6 0 1 (((pm_u A 7 0 j1 v1) 6 0 1) + (nI 1))) c G g))) : pW ns d 104 12 [some (pm_r 6 0), some (pm_i v1)] [] (mm x R Z Y o A c G g) Q := by
  refine pW_eq 2 (pc' := 16) (L' := [some (pm_r 6 0), some (pm_i v1)]) (S' := [pm_r 7 0]) (M' := (mm x R Z Y o A c G g)) (fun call n => ?_) ?_
  · refine Eq.trans (b := pm_g (mm x R Z Y o A c G g) 6 0 (pm_go call ns d 104 n 16 [some (pm_r 6 0), some (pm_i v1)] [pm_a (R 6 0 0)] (mm x R Z Y o A c G g))) rfl ?_
    refine (g_ok (f := 6) (by decide) rfl).trans ?_
    exact (congrArg (fun z => pm_go call ns d 104 n 16 [some (pm_r 6 0), some (pm_i v1)] [pm_a z] (mm x R Z Y o A c G g)) (rs_6_0 hR))
  refine pW_eq 2 (pc' := 20) (L' := [some (pm_r 6 0), some (pm_i v1)]) (S' := [pm_i (A 6 0 1), pm_r 7 0]) (M' := (mm x R Z Y o A c G g)) (fun call n => ?_) ?_
  · refine Eq.trans (b := pm_g (mm x R Z Y o A c G g) 6 0 (pm_go call ns d 104 n 20 [some (pm_r 6 0), some (pm_i v1)] [pm_i (A 6 0 1), pm_r 7 0] (mm x R Z Y o A c G g))) rfl ?_
    refine (g_ok (f := 6) (by decide) rfl).trans ?_
    rfl
  refine pW_eq 2 (pc' := 22) (L' := [some (pm_r 6 0), some (pm_i v1)]) (S' := []) (M' := (mm x R Z Y o (pm_u A 7 0 j1 v1) c G g)) (fun call n => ?_) ?_
  · refine Eq.trans (b := pm_g (mm x R Z Y o A c G g) 7 0 (pm_ix (A 6 0 1) 24 (fun jx => pm_go call ns d 104 n 22 [some (pm_r 6 0), some (pm_i v1)] [] (pm_u (mA Z A G) 7 0 jx v1, mB Y o c g, R, pm_tot, x)))) rfl ?_
    refine (g_ok (f := 7) (by decide) rfl).trans ?_
    refine (ix_ok (j := j1) e1 l1 (by decide)).trans ?_
    exact (congrArg (fun z => pm_go call ns d 104 n 22 [some (pm_r 6 0), some (pm_i v1)] [] (z, mB Y o c g, R, pm_tot, x)) (uA (by decide)))
  refine pW_eq 3 (pc' := 27) (L' := [some (pm_r 6 0), some (pm_i v1)]) (S' := [pm_i ((pm_u A 7 0 j1 v1) 6 0 1), pm_r 6 0]) (M' := (mm x R Z Y o (pm_u A 7 0 j1 v1) c G g)) (fun call n => ?_) ?_
  · refine Eq.trans (b := pm_g (mm x R Z Y o (pm_u A 7 0 j1 v1) c G g) 6 0 (pm_go call ns d 104 n 27 [some (pm_r 6 0), some (pm_i v1)] [pm_i ((pm_u A 7 0 j1 v1) 6 0 1), pm_r 6 0] (mm x R Z Y o (pm_u A 7 0 j1 v1) c G g))) rfl ?_
    refine (g_ok (f := 6) (by decide) rfl).trans ?_
    rfl
  refine pW_eq 3 (pc' := 32) (L' := [some (pm_r 6 0), some (pm_i v1)]) (S' := []) (M' := (mm x R Z Y o (pm_u (pm_u A 7 0 j1 v1) 6 0 1 (((pm_u A 7 0 j1 v1) 6 0 1) + (nI 1))) c G g)) (fun call n => ?_) ?_
  · refine Eq.trans (b := pm_g (mm x R Z Y o (pm_u A 7 0 j1 v1) c G g) 6 0 (pm_go call ns d 104 n 32 [some (pm_r 6 0), some (pm_i v1)] [] (pm_u (mA Z (pm_u A 7 0 j1 v1) G) 6 0 1 (((pm_u A 7 0 j1 v1) 6 0 1) + (nI 1)), mB Y o c g, R, pm_tot, x))) rfl ?_
    refine (g_ok (f := 6) (by decide) rfl).trans ?_
    exact (congrArg (fun z => pm_go call ns d 104 n 32 [some (pm_r 6 0), some (pm_i v1)] [] (z, mB Y o c g, R, pm_tot, x)) (uA (by decide)))
  refine pW_ret 1 (fun call n => ?_) k
  rfl
set_option maxRecDepth 20000 in
theorem t104_0 (hR : RS R) {i0 : Nat} {v1 : Int32} (q0 : i0 < 6) (k1 : (nI 12 ≤ A 4 i0 1) → Q (.inl none, (mm x R Z Y o A c G g))) (k2 : (¬ (nI 12 ≤ A 4 i0 1)) → pW ns d 104 12 [some (pm_r 4 i0), some (pm_i v1)] [] (mm x R Z Y o A c G g) Q) : pW ns d 104 0 [some (pm_r 4 i0), some (pm_i v1)] [] (mm x R Z Y o A c G g) Q := by
  refine b104_0 hR q0 (fun h1 => ?_) (fun h1 => ?_)
  · skip
    exact b104_32 hR   (k1 h1)
  · skip
    exact (k2 h1)
set_option maxRecDepth 20000 in
theorem t104_0a (hR : RS R) {v1 : Int32}  (k1 : (nI 24 ≤ A 6 0 1) → Q (.inl none, (mm x R Z Y o A c G g))) (k2 : (¬ (nI 24 ≤ A 6 0 1)) → pW ns d 104 12 [some (pm_r 6 0), some (pm_i v1)] [] (mm x R Z Y o A c G g) Q) : pW ns d 104 0 [some (pm_r 6 0), some (pm_i v1)] [] (mm x R Z Y o A c G g) Q := by
  refine b104_0a hR  (fun h1 => ?_) (fun h1 => ?_)
  · skip
    exact b104_32 hR   (k1 h1)
  · skip
    exact (k2 h1)
/-! 105 JobLayer$ByteRow.moveFirst -/
set_option maxRecDepth 20000 in
theorem b105_0 (hR : RS R) {i0 : Nat} {v1 : Int32} {i2 : Nat} {u3 : Option pm_V} {u4 : Option pm_V} (q0 : i0 < 6) (q2 : i2 < 8)  (k : pW ns d 105 17 [some (pm_r 4 i0), some (pm_i v1), some (pm_r 11 i2), some (pm_i (if nI 8 < if A 4 i0 1 < v1 then A 4 i0 1 else v1 then nI 8 else if A 4 i0 1 < v1 then A 4 i0 1 else v1)), some (pm_i (nI 0))] [] (mm x R Z Y o A c G g) Q) : pW ns d 105 0 [some (pm_r 4 i0), some (pm_i v1), some (pm_r 11 i2), u3, u4] [] (mm x R Z Y o A c G g) Q := by
  refine pW_eq 3 (pc' := 5) (L' := [some (pm_r 4 i0), some (pm_i v1), some (pm_r 11 i2), u3, u4]) (S' := [pm_i (A 4 i0 1), pm_i v1]) (M' := (mm x R Z Y o A c G g)) (fun call n => ?_) ?_
  · refine Eq.trans (b := pm_g (mm x R Z Y o A c G g) 4 i0 (pm_go call ns d 105 n 5 [some (pm_r 4 i0), some (pm_i v1), some (pm_r 11 i2), u3, u4] [pm_i (A 4 i0 1), pm_i v1] (mm x R Z Y o A c G g))) rfl ?_
    refine (g_ok (f := 4) q0 rfl).trans ?_
    rfl
  refine pW_eq 3 (pc' := 10) (L' := [some (pm_r 4 i0), some (pm_i v1), some (pm_r 11 i2), u3, u4]) (S' := [pm_i (nI 8), pm_i (if A 4 i0 1 < v1 then A 4 i0 1 else v1)]) (M' := (mm x R Z Y o A c G g)) (fun call n => ?_) ?_
  · refine Eq.trans (b := pm_g (mm x R Z Y o A c G g) 11 i2 (pm_go call ns d 105 n 10 [some (pm_r 4 i0), some (pm_i v1), some (pm_r 11 i2), u3, u4] [pm_i (nI 8), pm_i (if A 4 i0 1 < v1 then A 4 i0 1 else v1)] (mm x R Z Y o A c G g))) rfl ?_
    refine (g_ok (f := 11) q2 rfl).trans ?_
    rfl
  exact pW_eq 4 (fun call n => rfl) k
set_option maxRecDepth 20000 in
theorem b105_0a (hR : RS R) {v1 : Int32} {i2 : Nat} {u3 : Option pm_V} {u4 : Option pm_V} (q2 : i2 < 8)  (k : pW ns d 105 17 [some (pm_r 6 0), some (pm_i v1), some (pm_r 11 i2), some (pm_i (if nI 8 < if A 6 0 1 < v1 then A 6 0 1 else v1 then nI 8 else if A 6 0 1 < v1 then A 6 0 1 else v1)), some (pm_i (nI 0))] [] (mm x R Z Y o A c G g) Q) : pW ns d 105 0 [some (pm_r 6 0), some (pm_i v1), some (pm_r 11 i2), u3, u4] [] (mm x R Z Y o A c G g) Q := by
  refine pW_eq 3 (pc' := 5) (L' := [some (pm_r 6 0), some (pm_i v1), some (pm_r 11 i2), u3, u4]) (S' := [pm_i (A 6 0 1), pm_i v1]) (M' := (mm x R Z Y o A c G g)) (fun call n => ?_) ?_
  · refine Eq.trans (b := pm_g (mm x R Z Y o A c G g) 6 0 (pm_go call ns d 105 n 5 [some (pm_r 6 0), some (pm_i v1), some (pm_r 11 i2), u3, u4] [pm_i (A 6 0 1), pm_i v1] (mm x R Z Y o A c G g))) rfl ?_
    refine (g_ok (f := 6) (by decide) rfl).trans ?_
    rfl
  refine pW_eq 3 (pc' := 10) (L' := [some (pm_r 6 0), some (pm_i v1), some (pm_r 11 i2), u3, u4]) (S' := [pm_i (nI 8), pm_i (if A 6 0 1 < v1 then A 6 0 1 else v1)]) (M' := (mm x R Z Y o A c G g)) (fun call n => ?_) ?_
  · refine Eq.trans (b := pm_g (mm x R Z Y o A c G g) 11 i2 (pm_go call ns d 105 n 10 [some (pm_r 6 0), some (pm_i v1), some (pm_r 11 i2), u3, u4] [pm_i (nI 8), pm_i (if A 6 0 1 < v1 then A 6 0 1 else v1)] (mm x R Z Y o A c G g))) rfl ?_
    refine (g_ok (f := 11) q2 rfl).trans ?_
    rfl
  exact pW_eq 4 (fun call n => rfl) k
set_option maxRecDepth 20000 in
theorem b105_17 (hR : RS R) {i0 : Nat} {u1 : Option pm_V} {i2 : Nat} {v3 : Int32} {v4 : Int32} (q0 : i0 < 6) (q2 : i2 < 8)  (k1 : v3 ≤ v4 → pW ns d 105 40 [some (pm_r 4 i0), u1, some (pm_r 11 i2), some (pm_i v3), some (pm_i v4)] [] (mm x R Z Y o A c G g) Q) (k2 : ¬ (v3 ≤ v4) → pW ns d 105 23 [some (pm_r 4 i0), u1, some (pm_r 11 i2), some (pm_i v3), some (pm_i v4)] [] (mm x R Z Y o A c G g) Q) : pW ns d 105 17 [some (pm_r 4 i0), u1, some (pm_r 11 i2), some (pm_i v3), some (pm_i v4)] [] (mm x R Z Y o A c G g) Q := by
  exact pW_if 3 (c := v3 ≤ v4) (fun call n => rfl) k1 k2
set_option maxRecDepth 20000 in
theorem b105_17a (hR : RS R) {u1 : Option pm_V} {i2 : Nat} {v3 : Int32} {v4 : Int32} (q2 : i2 < 8)  (k1 : v3 ≤ v4 → pW ns d 105 40 [some (pm_r 6 0), u1, some (pm_r 11 i2), some (pm_i v3), some (pm_i v4)] [] (mm x R Z Y o A c G g) Q) (k2 : ¬ (v3 ≤ v4) → pW ns d 105 23 [some (pm_r 6 0), u1, some (pm_r 11 i2), some (pm_i v3), some (pm_i v4)] [] (mm x R Z Y o A c G g) Q) : pW ns d 105 17 [some (pm_r 6 0), u1, some (pm_r 11 i2), some (pm_i v3), some (pm_i v4)] [] (mm x R Z Y o A c G g) Q := by
  exact pW_if 3 (c := v3 ≤ v4) (fun call n => rfl) k1 k2
set_option maxRecDepth 20000 in
theorem b105_40 (hR : RS R) {i0 : Nat} {u1 : Option pm_V} {u2 : Option pm_V} {v3 : Int32} {u4 : Option pm_V} (q0 : i0 < 6)  (k : pW ns d 105 43 [some (pm_r 4 i0), u1, u2, some (pm_i v3), some (pm_i v3)] [] (mm x R Z Y o A c G g) Q) : pW ns d 105 40 [some (pm_r 4 i0), u1, u2, some (pm_i v3), u4] [] (mm x R Z Y o A c G g) Q := by
  exact pW_eq 2 (fun call n => rfl) k
set_option maxRecDepth 20000 in
theorem b105_23 (hR : RS R) {i0 : Nat} {u1 : Option pm_V} {i2 : Nat} {v3 : Int32} {v4 : Int32} {j1 : Nat} {j2 : Nat} (q0 : i0 < 6) (q2 : i2 < 8) (e1 : v4 = nI j1) (l1 : j1 < 12) (e2 : v4 = nI j2) (l2 : j2 < 8)  (k : pW ns d 105 17 [some (pm_r 4 i0), u1, some (pm_r 11 i2), some (pm_i v3), some (pm_i (v4 + (nI 1)))] [] (mm x R Z Y o (pm_u A 11 i2 j2 (A 5 i0 j1)) c G g) Q) : pW ns d 105 23 [some (pm_r 4 i0), u1, some (pm_r 11 i2), some (pm_i v3), some (pm_i v4)] [] (mm x R Z Y o A c G g) Q := by
  refine pW_eq 4 (pc' := 30) (L' := [some (pm_r 4 i0), u1, some (pm_r 11 i2), some (pm_i v3), some (pm_i v4)]) (S' := [pm_r 5 i0, pm_i v4, pm_r 11 i2]) (M' := (mm x R Z Y o A c G g)) (fun call n => ?_) ?_
  · refine Eq.trans (b := pm_g (mm x R Z Y o A c G g) 4 i0 (pm_go call ns d 105 n 30 [some (pm_r 4 i0), u1, some (pm_r 11 i2), some (pm_i v3), some (pm_i v4)] [pm_a (R 4 i0 0), pm_i v4, pm_r 11 i2] (mm x R Z Y o A c G g))) rfl ?_
    refine (g_ok (f := 4) q0 rfl).trans ?_
    exact (congrArg (fun z => pm_go call ns d 105 n 30 [some (pm_r 4 i0), u1, some (pm_r 11 i2), some (pm_i v3), some (pm_i v4)] [pm_a z, pm_i v4, pm_r 11 i2] (mm x R Z Y o A c G g)) (rs_4_0 hR q0))
  refine pW_eq 2 (pc' := 33) (L' := [some (pm_r 4 i0), u1, some (pm_r 11 i2), some (pm_i v3), some (pm_i v4)]) (S' := [pm_i (A 5 i0 j1), pm_i v4, pm_r 11 i2]) (M' := (mm x R Z Y o A c G g)) (fun call n => ?_) ?_
  · refine Eq.trans (b := pm_g (mm x R Z Y o A c G g) 5 i0 (pm_ix (v4) 12 (fun jx => pm_go call ns d 105 n 33 [some (pm_r 4 i0), u1, some (pm_r 11 i2), some (pm_i v3), some (pm_i v4)] [pm_i (A 5 i0 jx), pm_i v4, pm_r 11 i2] (mm x R Z Y o A c G g)))) rfl ?_
    refine (g_ok (f := 5) q0 rfl).trans ?_
    refine (ix_ok (j := j1) e1 l1 (by decide)).trans ?_
    rfl
  refine pW_eq 1 (pc' := 34) (L' := [some (pm_r 4 i0), u1, some (pm_r 11 i2), some (pm_i v3), some (pm_i v4)]) (S' := []) (M' := (mm x R Z Y o (pm_u A 11 i2 j2 (A 5 i0 j1)) c G g)) (fun call n => ?_) ?_
  · refine Eq.trans (b := pm_g (mm x R Z Y o A c G g) 11 i2 (pm_ix (v4) 8 (fun jx => pm_go call ns d 105 n 34 [some (pm_r 4 i0), u1, some (pm_r 11 i2), some (pm_i v3), some (pm_i v4)] [] (pm_u (mA Z A G) 11 i2 jx (A 5 i0 j1), mB Y o c g, R, pm_tot, x)))) rfl ?_
    refine (g_ok (f := 11) q2 rfl).trans ?_
    refine (ix_ok (j := j2) e2 l2 (by decide)).trans ?_
    exact (congrArg (fun z => pm_go call ns d 105 n 34 [some (pm_r 4 i0), u1, some (pm_r 11 i2), some (pm_i v3), some (pm_i v4)] [] (z, mB Y o c g, R, pm_tot, x)) (uA (by decide)))
  exact pW_eq 2 (fun call n => rfl) k
set_option maxRecDepth 20000 in
theorem b105_40a (hR : RS R) {u1 : Option pm_V} {u2 : Option pm_V} {v3 : Int32} {u4 : Option pm_V}   (k : pW ns d 105 43 [some (pm_r 6 0), u1, u2, some (pm_i v3), some (pm_i v3)] [] (mm x R Z Y o A c G g) Q) : pW ns d 105 40 [some (pm_r 6 0), u1, u2, some (pm_i v3), u4] [] (mm x R Z Y o A c G g) Q := by
  exact pW_eq 2 (fun call n => rfl) k
set_option maxRecDepth 20000 in
theorem b105_23a (hR : RS R) {u1 : Option pm_V} {i2 : Nat} {v3 : Int32} {v4 : Int32} {j1 : Nat} {j2 : Nat} (q2 : i2 < 8) (e1 : v4 = nI j1) (l1 : j1 < 24) (e2 : v4 = nI j2) (l2 : j2 < 8)  (k : pW ns d 105 17 [some (pm_r 6 0), u1, some (pm_r 11 i2), some (pm_i v3), some (pm_i (v4 + (nI 1)))] [] (mm x R Z Y o (pm_u A 11 i2 j2 (A 7 0 j1)) c G g) Q) : pW ns d 105 23 [some (pm_r 6 0), u1, some (pm_r 11 i2), some (pm_i v3), some (pm_i v4)] [] (mm x R Z Y o A c G g) Q := by
  refine pW_eq 4 (pc' := 30) (L' := [some (pm_r 6 0), u1, some (pm_r 11 i2), some (pm_i v3), some (pm_i v4)]) (S' := [pm_r 7 0, pm_i v4, pm_r 11 i2]) (M' := (mm x R Z Y o A c G g)) (fun call n => ?_) ?_
  · refine Eq.trans (b := pm_g (mm x R Z Y o A c G g) 6 0 (pm_go call ns d 105 n 30 [some (pm_r 6 0), u1, some (pm_r 11 i2), some (pm_i v3), some (pm_i v4)] [pm_a (R 6 0 0), pm_i v4, pm_r 11 i2] (mm x R Z Y o A c G g))) rfl ?_
    refine (g_ok (f := 6) (by decide) rfl).trans ?_
    exact (congrArg (fun z => pm_go call ns d 105 n 30 [some (pm_r 6 0), u1, some (pm_r 11 i2), some (pm_i v3), some (pm_i v4)] [pm_a z, pm_i v4, pm_r 11 i2] (mm x R Z Y o A c G g)) (rs_6_0 hR))
  refine pW_eq 2 (pc' := 33) (L' := [some (pm_r 6 0), u1, some (pm_r 11 i2), some (pm_i v3), some (pm_i v4)]) (S' := [pm_i (A 7 0 j1), pm_i v4, pm_r 11 i2]) (M' := (mm x R Z Y o A c G g)) (fun call n => ?_) ?_
  · refine Eq.trans (b := pm_g (mm x R Z Y o A c G g) 7 0 (pm_ix (v4) 24 (fun jx => pm_go call ns d 105 n 33 [some (pm_r 6 0), u1, some (pm_r 11 i2), some (pm_i v3), some (pm_i v4)] [pm_i (A 7 0 jx), pm_i v4, pm_r 11 i2] (mm x R Z Y o A c G g)))) rfl ?_
    refine (g_ok (f := 7) (by decide) rfl).trans ?_
    refine (ix_ok (j := j1) e1 l1 (by decide)).trans ?_
    rfl
  refine pW_eq 1 (pc' := 34) (L' := [some (pm_r 6 0), u1, some (pm_r 11 i2), some (pm_i v3), some (pm_i v4)]) (S' := []) (M' := (mm x R Z Y o (pm_u A 11 i2 j2 (A 7 0 j1)) c G g)) (fun call n => ?_) ?_
  · refine Eq.trans (b := pm_g (mm x R Z Y o A c G g) 11 i2 (pm_ix (v4) 8 (fun jx => pm_go call ns d 105 n 34 [some (pm_r 6 0), u1, some (pm_r 11 i2), some (pm_i v3), some (pm_i v4)] [] (pm_u (mA Z A G) 11 i2 jx (A 7 0 j1), mB Y o c g, R, pm_tot, x)))) rfl ?_
    refine (g_ok (f := 11) q2 rfl).trans ?_
    refine (ix_ok (j := j2) e2 l2 (by decide)).trans ?_
    exact (congrArg (fun z => pm_go call ns d 105 n 34 [some (pm_r 6 0), u1, some (pm_r 11 i2), some (pm_i v3), some (pm_i v4)] [] (z, mB Y o c g, R, pm_tot, x)) (uA (by decide)))
  exact pW_eq 2 (fun call n => rfl) k
set_option maxRecDepth 20000 in
theorem b105_43 (hR : RS R) {i0 : Nat} {u1 : Option pm_V} {u2 : Option pm_V} {v3 : Int32} {v4 : Int32} (q0 : i0 < 6)  (k1 : A 4 i0 1 ≤ v4 → pW ns d 105 74 [some (pm_r 4 i0), u1, u2, some (pm_i v3), some (pm_i v4)] [] (mm x R Z Y o A c G g) Q) (k2 : ¬ (A 4 i0 1 ≤ v4) → pW ns d 105 52 [some (pm_r 4 i0), u1, u2, some (pm_i v3), some (pm_i v4)] [] (mm x R Z Y o A c G g) Q) : pW ns d 105 43 [some (pm_r 4 i0), u1, u2, some (pm_i v3), some (pm_i v4)] [] (mm x R Z Y o A c G g) Q := by
  refine pW_eq 3 (pc' := 49) (L' := [some (pm_r 4 i0), u1, u2, some (pm_i v3), some (pm_i v4)]) (S' := [pm_i (A 4 i0 1), pm_i v4]) (M' := (mm x R Z Y o A c G g)) (fun call n => ?_) ?_
  · refine Eq.trans (b := pm_g (mm x R Z Y o A c G g) 4 i0 (pm_go call ns d 105 n 49 [some (pm_r 4 i0), u1, u2, some (pm_i v3), some (pm_i v4)] [pm_i (A 4 i0 1), pm_i v4] (mm x R Z Y o A c G g))) rfl ?_
    refine (g_ok (f := 4) q0 rfl).trans ?_
    rfl
  exact pW_if 1 (c := A 4 i0 1 ≤ v4) (fun call n => rfl) k1 k2
set_option maxRecDepth 20000 in
theorem b105_43a (hR : RS R) {u1 : Option pm_V} {u2 : Option pm_V} {v3 : Int32} {v4 : Int32}   (k1 : A 6 0 1 ≤ v4 → pW ns d 105 74 [some (pm_r 6 0), u1, u2, some (pm_i v3), some (pm_i v4)] [] (mm x R Z Y o A c G g) Q) (k2 : ¬ (A 6 0 1 ≤ v4) → pW ns d 105 52 [some (pm_r 6 0), u1, u2, some (pm_i v3), some (pm_i v4)] [] (mm x R Z Y o A c G g) Q) : pW ns d 105 43 [some (pm_r 6 0), u1, u2, some (pm_i v3), some (pm_i v4)] [] (mm x R Z Y o A c G g) Q := by
  refine pW_eq 3 (pc' := 49) (L' := [some (pm_r 6 0), u1, u2, some (pm_i v3), some (pm_i v4)]) (S' := [pm_i (A 6 0 1), pm_i v4]) (M' := (mm x R Z Y o A c G g)) (fun call n => ?_) ?_
  · refine Eq.trans (b := pm_g (mm x R Z Y o A c G g) 6 0 (pm_go call ns d 105 n 49 [some (pm_r 6 0), u1, u2, some (pm_i v3), some (pm_i v4)] [pm_i (A 6 0 1), pm_i v4] (mm x R Z Y o A c G g))) rfl ?_
    refine (g_ok (f := 6) (by decide) rfl).trans ?_
    rfl
  exact pW_if 1 (c := A 6 0 1 ≤ v4) (fun call n => rfl) k1 k2
set_option maxRecDepth 20000 in
theorem b105_74 (hR : RS R) {i0 : Nat} {u1 : Option pm_V} {u2 : Option pm_V} {v3 : Int32} {u4 : Option pm_V} (q0 : i0 < 6)  (k : Q (.inl (some (pm_i v3)), (mm x R Z Y o (pm_u A 4 i0 1 ((A 4 i0 1) - v3)) c G g))) : pW ns d 105 74 [some (pm_r 4 i0), u1, u2, some (pm_i v3), u4] [] (mm x R Z Y o A c G g) Q := by
  refine pW_eq 3 (pc' := 79) (L' := [some (pm_r 4 i0), u1, u2, some (pm_i v3), u4]) (S' := [pm_i (A 4 i0 1), pm_r 4 i0]) (M' := (mm x R Z Y o A c G g)) (fun call n => ?_) ?_
  · refine Eq.trans (b := pm_g (mm x R Z Y o A c G g) 4 i0 (pm_go call ns d 105 n 79 [some (pm_r 4 i0), u1, u2, some (pm_i v3), u4] [pm_i (A 4 i0 1), pm_r 4 i0] (mm x R Z Y o A c G g))) rfl ?_
    refine (g_ok (f := 4) q0 rfl).trans ?_
    rfl
  refine pW_eq 3 (pc' := 84) (L' := [some (pm_r 4 i0), u1, u2, some (pm_i v3), u4]) (S' := []) (M' := (mm x R Z Y o (pm_u A 4 i0 1 ((A 4 i0 1) - v3)) c G g)) (fun call n => ?_) ?_
  · refine Eq.trans (b := pm_g (mm x R Z Y o A c G g) 4 i0 (pm_go call ns d 105 n 84 [some (pm_r 4 i0), u1, u2, some (pm_i v3), u4] [] (pm_u (mA Z A G) 4 i0 1 ((A 4 i0 1) - v3), mB Y o c g, R, pm_tot, x))) rfl ?_
    refine (g_ok (f := 4) q0 rfl).trans ?_
    exact (congrArg (fun z => pm_go call ns d 105 n 84 [some (pm_r 4 i0), u1, u2, some (pm_i v3), u4] [] (z, mB Y o c g, R, pm_tot, x)) (uA (by decide)))
  refine pW_ret 2 (fun call n => ?_) k
  rfl
set_option maxRecDepth 20000 in
theorem b105_52 (hR : RS R) {i0 : Nat} {u1 : Option pm_V} {u2 : Option pm_V} {v3 : Int32} {v4 : Int32} {j1 : Nat} {j2 : Nat} (q0 : i0 < 6) (e1 : v4 = nI j1) (l1 : j1 < 12) (e2 : v4 - v3 = nI j2) (l2 : j2 < 12)  (k : pW ns d 105 43 [some (pm_r 4 i0), u1, u2, some (pm_i v3), some (pm_i (v4 + (nI 1)))] [] (mm x R Z Y o (pm_u A 5 i0 j2 (A 5 i0 j1)) c G g) Q) : pW ns d 105 52 [some (pm_r 4 i0), u1, u2, some (pm_i v3), some (pm_i v4)] [] (mm x R Z Y o A c G g) Q := by
  refine pW_eq 2 (pc' := 56) (L' := [some (pm_r 4 i0), u1, u2, some (pm_i v3), some (pm_i v4)]) (S' := [pm_r 5 i0]) (M' := (mm x R Z Y o A c G g)) (fun call n => ?_) ?_
  · refine Eq.trans (b := pm_g (mm x R Z Y o A c G g) 4 i0 (pm_go call ns d 105 n 56 [some (pm_r 4 i0), u1, u2, some (pm_i v3), some (pm_i v4)] [pm_a (R 4 i0 0)] (mm x R Z Y o A c G g))) rfl ?_
    refine (g_ok (f := 4) q0 rfl).trans ?_
    exact (congrArg (fun z => pm_go call ns d 105 n 56 [some (pm_r 4 i0), u1, u2, some (pm_i v3), some (pm_i v4)] [pm_a z] (mm x R Z Y o A c G g)) (rs_4_0 hR q0))
  refine pW_eq 5 (pc' := 64) (L' := [some (pm_r 4 i0), u1, u2, some (pm_i v3), some (pm_i v4)]) (S' := [pm_r 5 i0, pm_i (v4 - v3), pm_r 5 i0]) (M' := (mm x R Z Y o A c G g)) (fun call n => ?_) ?_
  · refine Eq.trans (b := pm_g (mm x R Z Y o A c G g) 4 i0 (pm_go call ns d 105 n 64 [some (pm_r 4 i0), u1, u2, some (pm_i v3), some (pm_i v4)] [pm_a (R 4 i0 0), pm_i (v4 - v3), pm_r 5 i0] (mm x R Z Y o A c G g))) rfl ?_
    refine (g_ok (f := 4) q0 rfl).trans ?_
    exact (congrArg (fun z => pm_go call ns d 105 n 64 [some (pm_r 4 i0), u1, u2, some (pm_i v3), some (pm_i v4)] [pm_a z, pm_i (v4 - v3), pm_r 5 i0] (mm x R Z Y o A c G g)) (rs_4_0 hR q0))
  refine pW_eq 2 (pc' := 67) (L' := [some (pm_r 4 i0), u1, u2, some (pm_i v3), some (pm_i v4)]) (S' := [pm_i (A 5 i0 j1), pm_i (v4 - v3), pm_r 5 i0]) (M' := (mm x R Z Y o A c G g)) (fun call n => ?_) ?_
  · refine Eq.trans (b := pm_g (mm x R Z Y o A c G g) 5 i0 (pm_ix (v4) 12 (fun jx => pm_go call ns d 105 n 67 [some (pm_r 4 i0), u1, u2, some (pm_i v3), some (pm_i v4)] [pm_i (A 5 i0 jx), pm_i (v4 - v3), pm_r 5 i0] (mm x R Z Y o A c G g)))) rfl ?_
    refine (g_ok (f := 5) q0 rfl).trans ?_
    refine (ix_ok (j := j1) e1 l1 (by decide)).trans ?_
    rfl
  refine pW_eq 1 (pc' := 68) (L' := [some (pm_r 4 i0), u1, u2, some (pm_i v3), some (pm_i v4)]) (S' := []) (M' := (mm x R Z Y o (pm_u A 5 i0 j2 (A 5 i0 j1)) c G g)) (fun call n => ?_) ?_
  · refine Eq.trans (b := pm_g (mm x R Z Y o A c G g) 5 i0 (pm_ix (v4 - v3) 12 (fun jx => pm_go call ns d 105 n 68 [some (pm_r 4 i0), u1, u2, some (pm_i v3), some (pm_i v4)] [] (pm_u (mA Z A G) 5 i0 jx (A 5 i0 j1), mB Y o c g, R, pm_tot, x)))) rfl ?_
    refine (g_ok (f := 5) q0 rfl).trans ?_
    refine (ix_ok (j := j2) e2 l2 (by decide)).trans ?_
    exact (congrArg (fun z => pm_go call ns d 105 n 68 [some (pm_r 4 i0), u1, u2, some (pm_i v3), some (pm_i v4)] [] (z, mB Y o c g, R, pm_tot, x)) (uA (by decide)))
  exact pW_eq 2 (fun call n => rfl) k
set_option maxRecDepth 20000 in
theorem b105_74a (hR : RS R) {u1 : Option pm_V} {u2 : Option pm_V} {v3 : Int32} {u4 : Option pm_V}   (k : Q (.inl (some (pm_i v3)), (mm x R Z Y o (pm_u A 6 0 1 ((A 6 0 1) - v3)) c G g))) : pW ns d 105 74 [some (pm_r 6 0), u1, u2, some (pm_i v3), u4] [] (mm x R Z Y o A c G g) Q := by
  refine pW_eq 3 (pc' := 79) (L' := [some (pm_r 6 0), u1, u2, some (pm_i v3), u4]) (S' := [pm_i (A 6 0 1), pm_r 6 0]) (M' := (mm x R Z Y o A c G g)) (fun call n => ?_) ?_
  · refine Eq.trans (b := pm_g (mm x R Z Y o A c G g) 6 0 (pm_go call ns d 105 n 79 [some (pm_r 6 0), u1, u2, some (pm_i v3), u4] [pm_i (A 6 0 1), pm_r 6 0] (mm x R Z Y o A c G g))) rfl ?_
    refine (g_ok (f := 6) (by decide) rfl).trans ?_
    rfl
  refine pW_eq 3 (pc' := 84) (L' := [some (pm_r 6 0), u1, u2, some (pm_i v3), u4]) (S' := []) (M' := (mm x R Z Y o (pm_u A 6 0 1 ((A 6 0 1) - v3)) c G g)) (fun call n => ?_) ?_
  · refine Eq.trans (b := pm_g (mm x R Z Y o A c G g) 6 0 (pm_go call ns d 105 n 84 [some (pm_r 6 0), u1, u2, some (pm_i v3), u4] [] (pm_u (mA Z A G) 6 0 1 ((A 6 0 1) - v3), mB Y o c g, R, pm_tot, x))) rfl ?_
    refine (g_ok (f := 6) (by decide) rfl).trans ?_
    exact (congrArg (fun z => pm_go call ns d 105 n 84 [some (pm_r 6 0), u1, u2, some (pm_i v3), u4] [] (z, mB Y o c g, R, pm_tot, x)) (uA (by decide)))
  refine pW_ret 2 (fun call n => ?_) k
  rfl
set_option maxRecDepth 20000 in
theorem b105_52a (hR : RS R) {u1 : Option pm_V} {u2 : Option pm_V} {v3 : Int32} {v4 : Int32} {j1 : Nat} {j2 : Nat} (e1 : v4 = nI j1) (l1 : j1 < 24) (e2 : v4 - v3 = nI j2) (l2 : j2 < 24)  (k : pW ns d 105 43 [some (pm_r 6 0), u1, u2, some (pm_i v3), some (pm_i (v4 + (nI 1)))] [] (mm x R Z Y o (pm_u A 7 0 j2 (A 7 0 j1)) c G g) Q) : pW ns d 105 52 [some (pm_r 6 0), u1, u2, some (pm_i v3), some (pm_i v4)] [] (mm x R Z Y o A c G g) Q := by
  refine pW_eq 2 (pc' := 56) (L' := [some (pm_r 6 0), u1, u2, some (pm_i v3), some (pm_i v4)]) (S' := [pm_r 7 0]) (M' := (mm x R Z Y o A c G g)) (fun call n => ?_) ?_
  · refine Eq.trans (b := pm_g (mm x R Z Y o A c G g) 6 0 (pm_go call ns d 105 n 56 [some (pm_r 6 0), u1, u2, some (pm_i v3), some (pm_i v4)] [pm_a (R 6 0 0)] (mm x R Z Y o A c G g))) rfl ?_
    refine (g_ok (f := 6) (by decide) rfl).trans ?_
    exact (congrArg (fun z => pm_go call ns d 105 n 56 [some (pm_r 6 0), u1, u2, some (pm_i v3), some (pm_i v4)] [pm_a z] (mm x R Z Y o A c G g)) (rs_6_0 hR))
  refine pW_eq 5 (pc' := 64) (L' := [some (pm_r 6 0), u1, u2, some (pm_i v3), some (pm_i v4)]) (S' := [pm_r 7 0, pm_i (v4 - v3), pm_r 7 0]) (M' := (mm x R Z Y o A c G g)) (fun call n => ?_) ?_
  · refine Eq.trans (b := pm_g (mm x R Z Y o A c G g) 6 0 (pm_go call ns d 105 n 64 [some (pm_r 6 0), u1, u2, some (pm_i v3), some (pm_i v4)] [pm_a (R 6 0 0), pm_i (v4 - v3), pm_r 7 0] (mm x R Z Y o A c G g))) rfl ?_
    refine (g_ok (f := 6) (by decide) rfl).trans ?_
    exact (congrArg (fun z => pm_go call ns d 105 n 64 [some (pm_r 6 0), u1, u2, some (pm_i v3), some (pm_i v4)] [pm_a z, pm_i (v4 - v3), pm_r 7 0] (mm x R Z Y o A c G g)) (rs_6_0 hR))
  refine pW_eq 2 (pc' := 67) (L' := [some (pm_r 6 0), u1, u2, some (pm_i v3), some (pm_i v4)]) (S' := [pm_i (A 7 0 j1), pm_i (v4 - v3), pm_r 7 0]) (M' := (mm x R Z Y o A c G g)) (fun call n => ?_) ?_
  · refine Eq.trans (b := pm_g (mm x R Z Y o A c G g) 7 0 (pm_ix (v4) 24 (fun jx => pm_go call ns d 105 n 67 [some (pm_r 6 0), u1, u2, some (pm_i v3), some (pm_i v4)] [pm_i (A 7 0 jx), pm_i (v4 - v3), pm_r 7 0] (mm x R Z Y o A c G g)))) rfl ?_
    refine (g_ok (f := 7) (by decide) rfl).trans ?_
    refine (ix_ok (j := j1) e1 l1 (by decide)).trans ?_
    rfl
  refine pW_eq 1 (pc' := 68) (L' := [some (pm_r 6 0), u1, u2, some (pm_i v3), some (pm_i v4)]) (S' := []) (M' := (mm x R Z Y o (pm_u A 7 0 j2 (A 7 0 j1)) c G g)) (fun call n => ?_) ?_
  · refine Eq.trans (b := pm_g (mm x R Z Y o A c G g) 7 0 (pm_ix (v4 - v3) 24 (fun jx => pm_go call ns d 105 n 68 [some (pm_r 6 0), u1, u2, some (pm_i v3), some (pm_i v4)] [] (pm_u (mA Z A G) 7 0 jx (A 7 0 j1), mB Y o c g, R, pm_tot, x)))) rfl ?_
    refine (g_ok (f := 7) (by decide) rfl).trans ?_
    refine (ix_ok (j := j2) e2 l2 (by decide)).trans ?_
    exact (congrArg (fun z => pm_go call ns d 105 n 68 [some (pm_r 6 0), u1, u2, some (pm_i v3), some (pm_i v4)] [] (z, mB Y o c g, R, pm_tot, x)) (uA (by decide)))
  exact pW_eq 2 (fun call n => rfl) k
set_option maxRecDepth 20000 in
theorem t105_17 (hR : RS R) {i0 : Nat} {u1 : Option pm_V} {i2 : Nat} {v3 : Int32} {v4 : Int32} (q0 : i0 < 6) (q2 : i2 < 8) (k1 : (v3 ≤ v4) → pW ns d 105 43 [some (pm_r 4 i0), u1, some (pm_r 11 i2), some (pm_i v3), some (pm_i v3)] [] (mm x R Z Y o A c G g) Q) (k2 : (¬ (v3 ≤ v4)) → pW ns d 105 23 [some (pm_r 4 i0), u1, some (pm_r 11 i2), some (pm_i v3), some (pm_i v4)] [] (mm x R Z Y o A c G g) Q) : pW ns d 105 17 [some (pm_r 4 i0), u1, some (pm_r 11 i2), some (pm_i v3), some (pm_i v4)] [] (mm x R Z Y o A c G g) Q := by
  refine b105_17 hR q0 q2 (fun h1 => ?_) (fun h1 => ?_)
  · skip
    exact b105_40 hR q0  (k1 h1)
  · skip
    exact (k2 h1)
set_option maxRecDepth 20000 in
theorem t105_17a (hR : RS R) {u1 : Option pm_V} {i2 : Nat} {v3 : Int32} {v4 : Int32} (q2 : i2 < 8) (k1 : (v3 ≤ v4) → pW ns d 105 43 [some (pm_r 6 0), u1, some (pm_r 11 i2), some (pm_i v3), some (pm_i v3)] [] (mm x R Z Y o A c G g) Q) (k2 : (¬ (v3 ≤ v4)) → pW ns d 105 23 [some (pm_r 6 0), u1, some (pm_r 11 i2), some (pm_i v3), some (pm_i v4)] [] (mm x R Z Y o A c G g) Q) : pW ns d 105 17 [some (pm_r 6 0), u1, some (pm_r 11 i2), some (pm_i v3), some (pm_i v4)] [] (mm x R Z Y o A c G g) Q := by
  refine b105_17a hR q2 (fun h1 => ?_) (fun h1 => ?_)
  · skip
    exact b105_40a hR   (k1 h1)
  · skip
    exact (k2 h1)
set_option maxRecDepth 20000 in
theorem t105_43 (hR : RS R) {i0 : Nat} {u1 : Option pm_V} {u2 : Option pm_V} {v3 : Int32} {v4 : Int32} (q0 : i0 < 6) (k1 : (A 4 i0 1 ≤ v4) → Q (.inl (some (pm_i v3)), (mm x R Z Y o (pm_u A 4 i0 1 ((A 4 i0 1) - v3)) c G g))) (k2 : (¬ (A 4 i0 1 ≤ v4)) → pW ns d 105 52 [some (pm_r 4 i0), u1, u2, some (pm_i v3), some (pm_i v4)] [] (mm x R Z Y o A c G g) Q) : pW ns d 105 43 [some (pm_r 4 i0), u1, u2, some (pm_i v3), some (pm_i v4)] [] (mm x R Z Y o A c G g) Q := by
  refine b105_43 hR q0 (fun h1 => ?_) (fun h1 => ?_)
  · skip
    exact b105_74 hR q0  (k1 h1)
  · skip
    exact (k2 h1)
set_option maxRecDepth 20000 in
theorem t105_43a (hR : RS R) {u1 : Option pm_V} {u2 : Option pm_V} {v3 : Int32} {v4 : Int32}  (k1 : (A 6 0 1 ≤ v4) → Q (.inl (some (pm_i v3)), (mm x R Z Y o (pm_u A 6 0 1 ((A 6 0 1) - v3)) c G g))) (k2 : (¬ (A 6 0 1 ≤ v4)) → pW ns d 105 52 [some (pm_r 6 0), u1, u2, some (pm_i v3), some (pm_i v4)] [] (mm x R Z Y o A c G g) Q) : pW ns d 105 43 [some (pm_r 6 0), u1, u2, some (pm_i v3), some (pm_i v4)] [] (mm x R Z Y o A c G g) Q := by
  refine b105_43a hR  (fun h1 => ?_) (fun h1 => ?_)
  · skip
    exact b105_74a hR   (k1 h1)
  · skip
    exact (k2 h1)
/-! 107 JobLayer$Call.prepareTransfer -/
set_option maxRecDepth 20000 in
theorem b107_0 (hR : RS R) {i0 : Nat} {v1 : Int32} {v2 : Int32} {v3 : Int32} {w4 : Int64} {u5 : Option pm_V} (q0 : i0 < 8)  (k : Q (.inl none, (mm x R Z Y o (pm_u (pm_u (pm_u A 13 i0 0 v1) 13 i0 1 v2) 13 i0 2 v3) (pm_w c i0 w4) G g))) : pW ns d 107 0 [some (pm_r 13 i0), some (pm_i v1), some (pm_i v2), some (pm_i v3), some (pm_l (w4)), u5] [] (mm x R Z Y o A c G g) Q := by
  refine pW_eq 3 (pc' := 5) (L' := [some (pm_r 13 i0), some (pm_i v1), some (pm_i v2), some (pm_i v3), some (pm_l (w4)), u5]) (S' := []) (M' := (mm x R Z Y o (pm_u A 13 i0 0 v1) c G g)) (fun call n => ?_) ?_
  · refine Eq.trans (b := pm_g (mm x R Z Y o A c G g) 13 i0 (pm_go call ns d 107 n 5 [some (pm_r 13 i0), some (pm_i v1), some (pm_i v2), some (pm_i v3), some (pm_l (w4)), u5] [] (pm_u (mA Z A G) 13 i0 0 v1, mB Y o c g, R, pm_tot, x))) rfl ?_
    refine (g_ok (f := 13) q0 rfl).trans ?_
    exact (congrArg (fun z => pm_go call ns d 107 n 5 [some (pm_r 13 i0), some (pm_i v1), some (pm_i v2), some (pm_i v3), some (pm_l (w4)), u5] [] (z, mB Y o c g, R, pm_tot, x)) (uA (by decide)))
  refine pW_eq 3 (pc' := 10) (L' := [some (pm_r 13 i0), some (pm_i v1), some (pm_i v2), some (pm_i v3), some (pm_l (w4)), u5]) (S' := []) (M' := (mm x R Z Y o (pm_u (pm_u A 13 i0 0 v1) 13 i0 1 v2) c G g)) (fun call n => ?_) ?_
  · refine Eq.trans (b := pm_g (mm x R Z Y o (pm_u A 13 i0 0 v1) c G g) 13 i0 (pm_go call ns d 107 n 10 [some (pm_r 13 i0), some (pm_i v1), some (pm_i v2), some (pm_i v3), some (pm_l (w4)), u5] [] (pm_u (mA Z (pm_u A 13 i0 0 v1) G) 13 i0 1 v2, mB Y o c g, R, pm_tot, x))) rfl ?_
    refine (g_ok (f := 13) q0 rfl).trans ?_
    exact (congrArg (fun z => pm_go call ns d 107 n 10 [some (pm_r 13 i0), some (pm_i v1), some (pm_i v2), some (pm_i v3), some (pm_l (w4)), u5] [] (z, mB Y o c g, R, pm_tot, x)) (uA (by decide)))
  refine pW_eq 3 (pc' := 15) (L' := [some (pm_r 13 i0), some (pm_i v1), some (pm_i v2), some (pm_i v3), some (pm_l (w4)), u5]) (S' := []) (M' := (mm x R Z Y o (pm_u (pm_u (pm_u A 13 i0 0 v1) 13 i0 1 v2) 13 i0 2 v3) c G g)) (fun call n => ?_) ?_
  · refine Eq.trans (b := pm_g (mm x R Z Y o (pm_u (pm_u A 13 i0 0 v1) 13 i0 1 v2) c G g) 13 i0 (pm_go call ns d 107 n 15 [some (pm_r 13 i0), some (pm_i v1), some (pm_i v2), some (pm_i v3), some (pm_l (w4)), u5] [] (pm_u (mA Z (pm_u (pm_u A 13 i0 0 v1) 13 i0 1 v2) G) 13 i0 2 v3, mB Y o c g, R, pm_tot, x))) rfl ?_
    refine (g_ok (f := 13) q0 rfl).trans ?_
    exact (congrArg (fun z => pm_go call ns d 107 n 15 [some (pm_r 13 i0), some (pm_i v1), some (pm_i v2), some (pm_i v3), some (pm_l (w4)), u5] [] (z, mB Y o c g, R, pm_tot, x)) (uA (by decide)))
  refine pW_eq 3 (pc' := 21) (L' := [some (pm_r 13 i0), some (pm_i v1), some (pm_i v2), some (pm_i v3), some (pm_l (w4)), u5]) (S' := []) (M' := (mm x R Z Y o (pm_u (pm_u (pm_u A 13 i0 0 v1) 13 i0 1 v2) 13 i0 2 v3) (pm_w c i0 w4) G g)) (fun call n => ?_) ?_
  · refine Eq.trans (b := pm_g (mm x R Z Y o (pm_u (pm_u (pm_u A 13 i0 0 v1) 13 i0 1 v2) 13 i0 2 v3) c G g) 13 i0 (pm_go call ns d 107 n 21 [some (pm_r 13 i0), some (pm_i v1), some (pm_i v2), some (pm_i v3), some (pm_l (w4)), u5] [] (mA Z (pm_u (pm_u (pm_u A 13 i0 0 v1) 13 i0 1 v2) 13 i0 2 v3) G, pm_u (mB Y o c g) 13 i0 3 w4, R, pm_tot, x))) rfl ?_
    refine (g_ok (f := 13) q0 rfl).trans ?_
    exact (congrArg (fun z => pm_go call ns d 107 n 21 [some (pm_r 13 i0), some (pm_i v1), some (pm_i v2), some (pm_i v3), some (pm_l (w4)), u5] [] (mA Z (pm_u (pm_u (pm_u A 13 i0 0 v1) 13 i0 1 v2) 13 i0 2 v3) G, z, R, pm_tot, x)) uC)
  refine pW_ret 1 (fun call n => ?_) k
  rfl
/-! 108 JobLayer$Call.byteAt -/
set_option maxRecDepth 20000 in
theorem b108_0 (hR : RS R) {i0 : Nat} {v1 : Int32} (q0 : i0 < 8)  (k : Q (.inl (some (pm_i (((((c i0).toUInt64 >>> (((nI 8) * v1).toInt64.toUInt64 &&& Int64.toUInt64 63)).toInt64).toInt32) &&& (nI 255)))), (mm x R Z Y o A c G g))) : pW ns d 108 0 [some (pm_r 13 i0), some (pm_i v1)] [] (mm x R Z Y o A c G g) Q := by
  refine pW_eq 2 (pc' := 4) (L' := [some (pm_r 13 i0), some (pm_i v1)]) (S' := [pm_l (c i0)]) (M' := (mm x R Z Y o A c G g)) (fun call n => ?_) ?_
  · refine Eq.trans (b := pm_g (mm x R Z Y o A c G g) 13 i0 (pm_go call ns d 108 n 4 [some (pm_r 13 i0), some (pm_i v1)] [pm_l (c i0)] (mm x R Z Y o A c G g))) rfl ?_
    refine (g_ok (f := 13) q0 rfl).trans ?_
    rfl
  refine pW_ret 8 (fun call n => ?_) k
  rfl
/-! 110 JobLayer$Task.startFrom -/
set_option maxRecDepth 20000 in
theorem b110_0 (hR : RS R) {i0 : Nat} {i1 : Nat} {u2 : Option pm_V} (q0 : i0 < 8) (q1 : i1 < 8)  (k : pW ns d 110 2 [some (pm_r 8 i0), some (pm_r 8 i1), some (pm_i (nI 0))] [] (mm x R Z Y o A c G g) Q) : pW ns d 110 0 [some (pm_r 8 i0), some (pm_r 8 i1), u2] [] (mm x R Z Y o A c G g) Q := by
  exact pW_eq 2 (fun call n => rfl) k
set_option maxRecDepth 20000 in
theorem b110_2 (hR : RS R) {i0 : Nat} {i1 : Nat} {v2 : Int32} (q0 : i0 < 8) (q1 : i1 < 8)  (k1 : nI 6 ≤ v2 → pW ns d 110 26 [some (pm_r 8 i0), some (pm_r 8 i1), some (pm_i v2)] [] (mm x R Z Y o A c G g) Q) (k2 : ¬ (nI 6 ≤ v2) → pW ns d 110 8 [some (pm_r 8 i0), some (pm_r 8 i1), some (pm_i v2)] [] (mm x R Z Y o A c G g) Q) : pW ns d 110 2 [some (pm_r 8 i0), some (pm_r 8 i1), some (pm_i v2)] [] (mm x R Z Y o A c G g) Q := by
  exact pW_if 3 (c := nI 6 ≤ v2) (fun call n => rfl) k1 k2
set_option maxRecDepth 20000 in
theorem b110_26 (hR : RS R) {i0 : Nat} {i1 : Nat} {u2 : Option pm_V} (q0 : i0 < 8) (q1 : i1 < 8)  (k : pW ns d 110 28 [some (pm_r 8 i0), some (pm_r 8 i1), some (pm_i (nI 1))] [] (mm x R Z Y o A c G g) Q) : pW ns d 110 26 [some (pm_r 8 i0), some (pm_r 8 i1), u2] [] (mm x R Z Y o A c G g) Q := by
  exact pW_eq 2 (fun call n => rfl) k
set_option maxRecDepth 20000 in
theorem b110_8 (hR : RS R) {i0 : Nat} {i1 : Nat} {v2 : Int32} {j1 : Nat} (q0 : i0 < 8) (q1 : i1 < 8) (e1 : v2 = nI j1) (l1 : j1 < 6)  (k : pW ns d 110 2 [some (pm_r 8 i0), some (pm_r 8 i1), some (pm_i (v2 + (nI 1)))] [] (mm x R Z Y o (pm_u A 9 i0 j1 (A 9 i1 j1)) c G g) Q) : pW ns d 110 8 [some (pm_r 8 i0), some (pm_r 8 i1), some (pm_i v2)] [] (mm x R Z Y o A c G g) Q := by
  refine pW_eq 2 (pc' := 12) (L' := [some (pm_r 8 i0), some (pm_r 8 i1), some (pm_i v2)]) (S' := [pm_r 9 i0]) (M' := (mm x R Z Y o A c G g)) (fun call n => ?_) ?_
  · refine Eq.trans (b := pm_g (mm x R Z Y o A c G g) 8 i0 (pm_go call ns d 110 n 12 [some (pm_r 8 i0), some (pm_r 8 i1), some (pm_i v2)] [pm_a (R 8 i0 1)] (mm x R Z Y o A c G g))) rfl ?_
    refine (g_ok (f := 8) q0 rfl).trans ?_
    exact (congrArg (fun z => pm_go call ns d 110 n 12 [some (pm_r 8 i0), some (pm_r 8 i1), some (pm_i v2)] [pm_a z] (mm x R Z Y o A c G g)) (rs_8_1 hR q0))
  refine pW_eq 3 (pc' := 17) (L' := [some (pm_r 8 i0), some (pm_r 8 i1), some (pm_i v2)]) (S' := [pm_r 9 i1, pm_i v2, pm_r 9 i0]) (M' := (mm x R Z Y o A c G g)) (fun call n => ?_) ?_
  · refine Eq.trans (b := pm_g (mm x R Z Y o A c G g) 8 i1 (pm_go call ns d 110 n 17 [some (pm_r 8 i0), some (pm_r 8 i1), some (pm_i v2)] [pm_a (R 8 i1 1), pm_i v2, pm_r 9 i0] (mm x R Z Y o A c G g))) rfl ?_
    refine (g_ok (f := 8) q1 rfl).trans ?_
    exact (congrArg (fun z => pm_go call ns d 110 n 17 [some (pm_r 8 i0), some (pm_r 8 i1), some (pm_i v2)] [pm_a z, pm_i v2, pm_r 9 i0] (mm x R Z Y o A c G g)) (rs_8_1 hR q1))
  refine pW_eq 2 (pc' := 19) (L' := [some (pm_r 8 i0), some (pm_r 8 i1), some (pm_i v2)]) (S' := [pm_i (A 9 i1 j1), pm_i v2, pm_r 9 i0]) (M' := (mm x R Z Y o A c G g)) (fun call n => ?_) ?_
  · refine Eq.trans (b := pm_g (mm x R Z Y o A c G g) 9 i1 (pm_ix (v2) 6 (fun jx => pm_go call ns d 110 n 19 [some (pm_r 8 i0), some (pm_r 8 i1), some (pm_i v2)] [pm_i (A 9 i1 jx), pm_i v2, pm_r 9 i0] (mm x R Z Y o A c G g)))) rfl ?_
    refine (g_ok (f := 9) q1 rfl).trans ?_
    refine (ix_ok (j := j1) e1 l1 (by decide)).trans ?_
    rfl
  refine pW_eq 1 (pc' := 20) (L' := [some (pm_r 8 i0), some (pm_r 8 i1), some (pm_i v2)]) (S' := []) (M' := (mm x R Z Y o (pm_u A 9 i0 j1 (A 9 i1 j1)) c G g)) (fun call n => ?_) ?_
  · refine Eq.trans (b := pm_g (mm x R Z Y o A c G g) 9 i0 (pm_ix (v2) 6 (fun jx => pm_go call ns d 110 n 20 [some (pm_r 8 i0), some (pm_r 8 i1), some (pm_i v2)] [] (pm_u (mA Z A G) 9 i0 jx (A 9 i1 j1), mB Y o c g, R, pm_tot, x)))) rfl ?_
    refine (g_ok (f := 9) q0 rfl).trans ?_
    refine (ix_ok (j := j1) e1 l1 (by decide)).trans ?_
    exact (congrArg (fun z => pm_go call ns d 110 n 20 [some (pm_r 8 i0), some (pm_r 8 i1), some (pm_i v2)] [] (z, mB Y o c g, R, pm_tot, x)) (uA (by decide)))
  exact pW_eq 2 (fun call n => rfl) k
set_option maxRecDepth 20000 in
theorem b110_28 (hR : RS R) {i0 : Nat} {i1 : Nat} {v2 : Int32} (q0 : i0 < 8) (q1 : i1 < 8)  (k1 : nI 7 < v2 → pW ns d 110 52 [some (pm_r 8 i0), some (pm_r 8 i1), some (pm_i v2)] [] (mm x R Z Y o A c G g) Q) (k2 : ¬ (nI 7 < v2) → pW ns d 110 34 [some (pm_r 8 i0), some (pm_r 8 i1), some (pm_i v2)] [] (mm x R Z Y o A c G g) Q) : pW ns d 110 28 [some (pm_r 8 i0), some (pm_r 8 i1), some (pm_i v2)] [] (mm x R Z Y o A c G g) Q := by
  exact pW_if 3 (c := nI 7 < v2) (fun call n => rfl) k1 k2
set_option maxRecDepth 20000 in
theorem b110_52 (hR : RS R) {i0 : Nat} {i1 : Nat} {u2 : Option pm_V} (q0 : i0 < 8) (q1 : i1 < 8)  (k : Q (.inl none, (mm x R Z Y o (pm_u (pm_u (pm_u (pm_u (pm_u (pm_u (pm_u (pm_u A 8 i0 6 (nI 1)) 8 i0 7 ((pm_u A 8 i0 6 (nI 1)) 8 i1 0)) 8 i0 8 ((pm_u (pm_u A 8 i0 6 (nI 1)) 8 i0 7 ((pm_u A 8 i0 6 (nI 1)) 8 i1 0)) 8 i1 8)) 8 i0 9 ((pm_u (pm_u (pm_u A 8 i0 6 (nI 1)) 8 i0 7 ((pm_u A 8 i0 6 (nI 1)) 8 i1 0)) 8 i0 8 ((pm_u (pm_u A 8 i0 6 (nI 1)) 8 i0 7 ((pm_u A 8 i0 6 (nI 1)) 8 i1 0)) 8 i1 8)) 8 i1 9)) 8 i0 10 (nI 0)) 8 i0 11 (nI 0)) 8 i0 12 (nI 0)) 8 i0 13 (nI 0)) c G g))) : pW ns d 110 52 [some (pm_r 8 i0), some (pm_r 8 i1), u2] [] (mm x R Z Y o A c G g) Q := by
  refine pW_eq 3 (pc' := 57) (L' := [some (pm_r 8 i0), some (pm_r 8 i1), u2]) (S' := []) (M' := (mm x R Z Y o (pm_u A 8 i0 6 (nI 1)) c G g)) (fun call n => ?_) ?_
  · refine Eq.trans (b := pm_g (mm x R Z Y o A c G g) 8 i0 (pm_go call ns d 110 n 57 [some (pm_r 8 i0), some (pm_r 8 i1), u2] [] (pm_u (mA Z A G) 8 i0 6 (nI 1), mB Y o c g, R, pm_tot, x))) rfl ?_
    refine (g_ok (f := 8) q0 rfl).trans ?_
    exact (congrArg (fun z => pm_go call ns d 110 n 57 [some (pm_r 8 i0), some (pm_r 8 i1), u2] [] (z, mB Y o c g, R, pm_tot, x)) (uA (by decide)))
  refine pW_eq 3 (pc' := 62) (L' := [some (pm_r 8 i0), some (pm_r 8 i1), u2]) (S' := [pm_i ((pm_u A 8 i0 6 (nI 1)) 8 i1 0), pm_r 8 i0]) (M' := (mm x R Z Y o (pm_u A 8 i0 6 (nI 1)) c G g)) (fun call n => ?_) ?_
  · refine Eq.trans (b := pm_g (mm x R Z Y o (pm_u A 8 i0 6 (nI 1)) c G g) 8 i1 (pm_go call ns d 110 n 62 [some (pm_r 8 i0), some (pm_r 8 i1), u2] [pm_i ((pm_u A 8 i0 6 (nI 1)) 8 i1 0), pm_r 8 i0] (mm x R Z Y o (pm_u A 8 i0 6 (nI 1)) c G g))) rfl ?_
    refine (g_ok (f := 8) q1 rfl).trans ?_
    rfl
  refine pW_eq 1 (pc' := 65) (L' := [some (pm_r 8 i0), some (pm_r 8 i1), u2]) (S' := []) (M' := (mm x R Z Y o (pm_u (pm_u A 8 i0 6 (nI 1)) 8 i0 7 ((pm_u A 8 i0 6 (nI 1)) 8 i1 0)) c G g)) (fun call n => ?_) ?_
  · refine Eq.trans (b := pm_g (mm x R Z Y o (pm_u A 8 i0 6 (nI 1)) c G g) 8 i0 (pm_go call ns d 110 n 65 [some (pm_r 8 i0), some (pm_r 8 i1), u2] [] (pm_u (mA Z (pm_u A 8 i0 6 (nI 1)) G) 8 i0 7 ((pm_u A 8 i0 6 (nI 1)) 8 i1 0), mB Y o c g, R, pm_tot, x))) rfl ?_
    refine (g_ok (f := 8) q0 rfl).trans ?_
    exact (congrArg (fun z => pm_go call ns d 110 n 65 [some (pm_r 8 i0), some (pm_r 8 i1), u2] [] (z, mB Y o c g, R, pm_tot, x)) (uA (by decide)))
  refine pW_eq 3 (pc' := 70) (L' := [some (pm_r 8 i0), some (pm_r 8 i1), u2]) (S' := [pm_i ((pm_u (pm_u A 8 i0 6 (nI 1)) 8 i0 7 ((pm_u A 8 i0 6 (nI 1)) 8 i1 0)) 8 i1 8), pm_r 8 i0]) (M' := (mm x R Z Y o (pm_u (pm_u A 8 i0 6 (nI 1)) 8 i0 7 ((pm_u A 8 i0 6 (nI 1)) 8 i1 0)) c G g)) (fun call n => ?_) ?_
  · refine Eq.trans (b := pm_g (mm x R Z Y o (pm_u (pm_u A 8 i0 6 (nI 1)) 8 i0 7 ((pm_u A 8 i0 6 (nI 1)) 8 i1 0)) c G g) 8 i1 (pm_go call ns d 110 n 70 [some (pm_r 8 i0), some (pm_r 8 i1), u2] [pm_i ((pm_u (pm_u A 8 i0 6 (nI 1)) 8 i0 7 ((pm_u A 8 i0 6 (nI 1)) 8 i1 0)) 8 i1 8), pm_r 8 i0] (mm x R Z Y o (pm_u (pm_u A 8 i0 6 (nI 1)) 8 i0 7 ((pm_u A 8 i0 6 (nI 1)) 8 i1 0)) c G g))) rfl ?_
    refine (g_ok (f := 8) q1 rfl).trans ?_
    rfl
  refine pW_eq 1 (pc' := 73) (L' := [some (pm_r 8 i0), some (pm_r 8 i1), u2]) (S' := []) (M' := (mm x R Z Y o (pm_u (pm_u (pm_u A 8 i0 6 (nI 1)) 8 i0 7 ((pm_u A 8 i0 6 (nI 1)) 8 i1 0)) 8 i0 8 ((pm_u (pm_u A 8 i0 6 (nI 1)) 8 i0 7 ((pm_u A 8 i0 6 (nI 1)) 8 i1 0)) 8 i1 8)) c G g)) (fun call n => ?_) ?_
  · refine Eq.trans (b := pm_g (mm x R Z Y o (pm_u (pm_u A 8 i0 6 (nI 1)) 8 i0 7 ((pm_u A 8 i0 6 (nI 1)) 8 i1 0)) c G g) 8 i0 (pm_go call ns d 110 n 73 [some (pm_r 8 i0), some (pm_r 8 i1), u2] [] (pm_u (mA Z (pm_u (pm_u A 8 i0 6 (nI 1)) 8 i0 7 ((pm_u A 8 i0 6 (nI 1)) 8 i1 0)) G) 8 i0 8 ((pm_u (pm_u A 8 i0 6 (nI 1)) 8 i0 7 ((pm_u A 8 i0 6 (nI 1)) 8 i1 0)) 8 i1 8), mB Y o c g, R, pm_tot, x))) rfl ?_
    refine (g_ok (f := 8) q0 rfl).trans ?_
    exact (congrArg (fun z => pm_go call ns d 110 n 73 [some (pm_r 8 i0), some (pm_r 8 i1), u2] [] (z, mB Y o c g, R, pm_tot, x)) (uA (by decide)))
  refine pW_eq 3 (pc' := 78) (L' := [some (pm_r 8 i0), some (pm_r 8 i1), u2]) (S' := [pm_i ((pm_u (pm_u (pm_u A 8 i0 6 (nI 1)) 8 i0 7 ((pm_u A 8 i0 6 (nI 1)) 8 i1 0)) 8 i0 8 ((pm_u (pm_u A 8 i0 6 (nI 1)) 8 i0 7 ((pm_u A 8 i0 6 (nI 1)) 8 i1 0)) 8 i1 8)) 8 i1 9), pm_r 8 i0]) (M' := (mm x R Z Y o (pm_u (pm_u (pm_u A 8 i0 6 (nI 1)) 8 i0 7 ((pm_u A 8 i0 6 (nI 1)) 8 i1 0)) 8 i0 8 ((pm_u (pm_u A 8 i0 6 (nI 1)) 8 i0 7 ((pm_u A 8 i0 6 (nI 1)) 8 i1 0)) 8 i1 8)) c G g)) (fun call n => ?_) ?_
  · refine Eq.trans (b := pm_g (mm x R Z Y o (pm_u (pm_u (pm_u A 8 i0 6 (nI 1)) 8 i0 7 ((pm_u A 8 i0 6 (nI 1)) 8 i1 0)) 8 i0 8 ((pm_u (pm_u A 8 i0 6 (nI 1)) 8 i0 7 ((pm_u A 8 i0 6 (nI 1)) 8 i1 0)) 8 i1 8)) c G g) 8 i1 (pm_go call ns d 110 n 78 [some (pm_r 8 i0), some (pm_r 8 i1), u2] [pm_i ((pm_u (pm_u (pm_u A 8 i0 6 (nI 1)) 8 i0 7 ((pm_u A 8 i0 6 (nI 1)) 8 i1 0)) 8 i0 8 ((pm_u (pm_u A 8 i0 6 (nI 1)) 8 i0 7 ((pm_u A 8 i0 6 (nI 1)) 8 i1 0)) 8 i1 8)) 8 i1 9), pm_r 8 i0] (mm x R Z Y o (pm_u (pm_u (pm_u A 8 i0 6 (nI 1)) 8 i0 7 ((pm_u A 8 i0 6 (nI 1)) 8 i1 0)) 8 i0 8 ((pm_u (pm_u A 8 i0 6 (nI 1)) 8 i0 7 ((pm_u A 8 i0 6 (nI 1)) 8 i1 0)) 8 i1 8)) c G g))) rfl ?_
    refine (g_ok (f := 8) q1 rfl).trans ?_
    rfl
  refine pW_eq 1 (pc' := 81) (L' := [some (pm_r 8 i0), some (pm_r 8 i1), u2]) (S' := []) (M' := (mm x R Z Y o (pm_u (pm_u (pm_u (pm_u A 8 i0 6 (nI 1)) 8 i0 7 ((pm_u A 8 i0 6 (nI 1)) 8 i1 0)) 8 i0 8 ((pm_u (pm_u A 8 i0 6 (nI 1)) 8 i0 7 ((pm_u A 8 i0 6 (nI 1)) 8 i1 0)) 8 i1 8)) 8 i0 9 ((pm_u (pm_u (pm_u A 8 i0 6 (nI 1)) 8 i0 7 ((pm_u A 8 i0 6 (nI 1)) 8 i1 0)) 8 i0 8 ((pm_u (pm_u A 8 i0 6 (nI 1)) 8 i0 7 ((pm_u A 8 i0 6 (nI 1)) 8 i1 0)) 8 i1 8)) 8 i1 9)) c G g)) (fun call n => ?_) ?_
  · refine Eq.trans (b := pm_g (mm x R Z Y o (pm_u (pm_u (pm_u A 8 i0 6 (nI 1)) 8 i0 7 ((pm_u A 8 i0 6 (nI 1)) 8 i1 0)) 8 i0 8 ((pm_u (pm_u A 8 i0 6 (nI 1)) 8 i0 7 ((pm_u A 8 i0 6 (nI 1)) 8 i1 0)) 8 i1 8)) c G g) 8 i0 (pm_go call ns d 110 n 81 [some (pm_r 8 i0), some (pm_r 8 i1), u2] [] (pm_u (mA Z (pm_u (pm_u (pm_u A 8 i0 6 (nI 1)) 8 i0 7 ((pm_u A 8 i0 6 (nI 1)) 8 i1 0)) 8 i0 8 ((pm_u (pm_u A 8 i0 6 (nI 1)) 8 i0 7 ((pm_u A 8 i0 6 (nI 1)) 8 i1 0)) 8 i1 8)) G) 8 i0 9 ((pm_u (pm_u (pm_u A 8 i0 6 (nI 1)) 8 i0 7 ((pm_u A 8 i0 6 (nI 1)) 8 i1 0)) 8 i0 8 ((pm_u (pm_u A 8 i0 6 (nI 1)) 8 i0 7 ((pm_u A 8 i0 6 (nI 1)) 8 i1 0)) 8 i1 8)) 8 i1 9), mB Y o c g, R, pm_tot, x))) rfl ?_
    refine (g_ok (f := 8) q0 rfl).trans ?_
    exact (congrArg (fun z => pm_go call ns d 110 n 81 [some (pm_r 8 i0), some (pm_r 8 i1), u2] [] (z, mB Y o c g, R, pm_tot, x)) (uA (by decide)))
  refine pW_eq 3 (pc' := 86) (L' := [some (pm_r 8 i0), some (pm_r 8 i1), u2]) (S' := []) (M' := (mm x R Z Y o (pm_u (pm_u (pm_u (pm_u (pm_u A 8 i0 6 (nI 1)) 8 i0 7 ((pm_u A 8 i0 6 (nI 1)) 8 i1 0)) 8 i0 8 ((pm_u (pm_u A 8 i0 6 (nI 1)) 8 i0 7 ((pm_u A 8 i0 6 (nI 1)) 8 i1 0)) 8 i1 8)) 8 i0 9 ((pm_u (pm_u (pm_u A 8 i0 6 (nI 1)) 8 i0 7 ((pm_u A 8 i0 6 (nI 1)) 8 i1 0)) 8 i0 8 ((pm_u (pm_u A 8 i0 6 (nI 1)) 8 i0 7 ((pm_u A 8 i0 6 (nI 1)) 8 i1 0)) 8 i1 8)) 8 i1 9)) 8 i0 10 (nI 0)) c G g)) (fun call n => ?_) ?_
  · refine Eq.trans (b := pm_g (mm x R Z Y o (pm_u (pm_u (pm_u (pm_u A 8 i0 6 (nI 1)) 8 i0 7 ((pm_u A 8 i0 6 (nI 1)) 8 i1 0)) 8 i0 8 ((pm_u (pm_u A 8 i0 6 (nI 1)) 8 i0 7 ((pm_u A 8 i0 6 (nI 1)) 8 i1 0)) 8 i1 8)) 8 i0 9 ((pm_u (pm_u (pm_u A 8 i0 6 (nI 1)) 8 i0 7 ((pm_u A 8 i0 6 (nI 1)) 8 i1 0)) 8 i0 8 ((pm_u (pm_u A 8 i0 6 (nI 1)) 8 i0 7 ((pm_u A 8 i0 6 (nI 1)) 8 i1 0)) 8 i1 8)) 8 i1 9)) c G g) 8 i0 (pm_go call ns d 110 n 86 [some (pm_r 8 i0), some (pm_r 8 i1), u2] [] (pm_u (mA Z (pm_u (pm_u (pm_u (pm_u A 8 i0 6 (nI 1)) 8 i0 7 ((pm_u A 8 i0 6 (nI 1)) 8 i1 0)) 8 i0 8 ((pm_u (pm_u A 8 i0 6 (nI 1)) 8 i0 7 ((pm_u A 8 i0 6 (nI 1)) 8 i1 0)) 8 i1 8)) 8 i0 9 ((pm_u (pm_u (pm_u A 8 i0 6 (nI 1)) 8 i0 7 ((pm_u A 8 i0 6 (nI 1)) 8 i1 0)) 8 i0 8 ((pm_u (pm_u A 8 i0 6 (nI 1)) 8 i0 7 ((pm_u A 8 i0 6 (nI 1)) 8 i1 0)) 8 i1 8)) 8 i1 9)) G) 8 i0 10 (nI 0), mB Y o c g, R, pm_tot, x))) rfl ?_
    refine (g_ok (f := 8) q0 rfl).trans ?_
    exact (congrArg (fun z => pm_go call ns d 110 n 86 [some (pm_r 8 i0), some (pm_r 8 i1), u2] [] (z, mB Y o c g, R, pm_tot, x)) (uA (by decide)))
  refine pW_eq 3 (pc' := 91) (L' := [some (pm_r 8 i0), some (pm_r 8 i1), u2]) (S' := []) (M' := (mm x R Z Y o (pm_u (pm_u (pm_u (pm_u (pm_u (pm_u A 8 i0 6 (nI 1)) 8 i0 7 ((pm_u A 8 i0 6 (nI 1)) 8 i1 0)) 8 i0 8 ((pm_u (pm_u A 8 i0 6 (nI 1)) 8 i0 7 ((pm_u A 8 i0 6 (nI 1)) 8 i1 0)) 8 i1 8)) 8 i0 9 ((pm_u (pm_u (pm_u A 8 i0 6 (nI 1)) 8 i0 7 ((pm_u A 8 i0 6 (nI 1)) 8 i1 0)) 8 i0 8 ((pm_u (pm_u A 8 i0 6 (nI 1)) 8 i0 7 ((pm_u A 8 i0 6 (nI 1)) 8 i1 0)) 8 i1 8)) 8 i1 9)) 8 i0 10 (nI 0)) 8 i0 11 (nI 0)) c G g)) (fun call n => ?_) ?_
  · refine Eq.trans (b := pm_g (mm x R Z Y o (pm_u (pm_u (pm_u (pm_u (pm_u A 8 i0 6 (nI 1)) 8 i0 7 ((pm_u A 8 i0 6 (nI 1)) 8 i1 0)) 8 i0 8 ((pm_u (pm_u A 8 i0 6 (nI 1)) 8 i0 7 ((pm_u A 8 i0 6 (nI 1)) 8 i1 0)) 8 i1 8)) 8 i0 9 ((pm_u (pm_u (pm_u A 8 i0 6 (nI 1)) 8 i0 7 ((pm_u A 8 i0 6 (nI 1)) 8 i1 0)) 8 i0 8 ((pm_u (pm_u A 8 i0 6 (nI 1)) 8 i0 7 ((pm_u A 8 i0 6 (nI 1)) 8 i1 0)) 8 i1 8)) 8 i1 9)) 8 i0 10 (nI 0)) c G g) 8 i0 (pm_go call ns d 110 n 91 [some (pm_r 8 i0), some (pm_r 8 i1), u2] [] (pm_u (mA Z (pm_u (pm_u (pm_u (pm_u (pm_u A 8 i0 6 (nI 1)) 8 i0 7 ((pm_u A 8 i0 6 (nI 1)) 8 i1 0)) 8 i0 8 ((pm_u (pm_u A 8 i0 6 (nI 1)) 8 i0 7 ((pm_u A 8 i0 6 (nI 1)) 8 i1 0)) 8 i1 8)) 8 i0 9 ((pm_u (pm_u (pm_u A 8 i0 6 (nI 1)) 8 i0 7 ((pm_u A 8 i0 6 (nI 1)) 8 i1 0)) 8 i0 8 ((pm_u (pm_u A 8 i0 6 (nI 1)) 8 i0 7 ((pm_u A 8 i0 6 (nI 1)) 8 i1 0)) 8 i1 8)) 8 i1 9)) 8 i0 10 (nI 0)) G) 8 i0 11 (nI 0), mB Y o c g, R, pm_tot, x))) rfl ?_
    refine (g_ok (f := 8) q0 rfl).trans ?_
    exact (congrArg (fun z => pm_go call ns d 110 n 91 [some (pm_r 8 i0), some (pm_r 8 i1), u2] [] (z, mB Y o c g, R, pm_tot, x)) (uA (by decide)))
  refine pW_eq 3 (pc' := 96) (L' := [some (pm_r 8 i0), some (pm_r 8 i1), u2]) (S' := []) (M' := (mm x R Z Y o (pm_u (pm_u (pm_u (pm_u (pm_u (pm_u (pm_u A 8 i0 6 (nI 1)) 8 i0 7 ((pm_u A 8 i0 6 (nI 1)) 8 i1 0)) 8 i0 8 ((pm_u (pm_u A 8 i0 6 (nI 1)) 8 i0 7 ((pm_u A 8 i0 6 (nI 1)) 8 i1 0)) 8 i1 8)) 8 i0 9 ((pm_u (pm_u (pm_u A 8 i0 6 (nI 1)) 8 i0 7 ((pm_u A 8 i0 6 (nI 1)) 8 i1 0)) 8 i0 8 ((pm_u (pm_u A 8 i0 6 (nI 1)) 8 i0 7 ((pm_u A 8 i0 6 (nI 1)) 8 i1 0)) 8 i1 8)) 8 i1 9)) 8 i0 10 (nI 0)) 8 i0 11 (nI 0)) 8 i0 12 (nI 0)) c G g)) (fun call n => ?_) ?_
  · refine Eq.trans (b := pm_g (mm x R Z Y o (pm_u (pm_u (pm_u (pm_u (pm_u (pm_u A 8 i0 6 (nI 1)) 8 i0 7 ((pm_u A 8 i0 6 (nI 1)) 8 i1 0)) 8 i0 8 ((pm_u (pm_u A 8 i0 6 (nI 1)) 8 i0 7 ((pm_u A 8 i0 6 (nI 1)) 8 i1 0)) 8 i1 8)) 8 i0 9 ((pm_u (pm_u (pm_u A 8 i0 6 (nI 1)) 8 i0 7 ((pm_u A 8 i0 6 (nI 1)) 8 i1 0)) 8 i0 8 ((pm_u (pm_u A 8 i0 6 (nI 1)) 8 i0 7 ((pm_u A 8 i0 6 (nI 1)) 8 i1 0)) 8 i1 8)) 8 i1 9)) 8 i0 10 (nI 0)) 8 i0 11 (nI 0)) c G g) 8 i0 (pm_go call ns d 110 n 96 [some (pm_r 8 i0), some (pm_r 8 i1), u2] [] (pm_u (mA Z (pm_u (pm_u (pm_u (pm_u (pm_u (pm_u A 8 i0 6 (nI 1)) 8 i0 7 ((pm_u A 8 i0 6 (nI 1)) 8 i1 0)) 8 i0 8 ((pm_u (pm_u A 8 i0 6 (nI 1)) 8 i0 7 ((pm_u A 8 i0 6 (nI 1)) 8 i1 0)) 8 i1 8)) 8 i0 9 ((pm_u (pm_u (pm_u A 8 i0 6 (nI 1)) 8 i0 7 ((pm_u A 8 i0 6 (nI 1)) 8 i1 0)) 8 i0 8 ((pm_u (pm_u A 8 i0 6 (nI 1)) 8 i0 7 ((pm_u A 8 i0 6 (nI 1)) 8 i1 0)) 8 i1 8)) 8 i1 9)) 8 i0 10 (nI 0)) 8 i0 11 (nI 0)) G) 8 i0 12 (nI 0), mB Y o c g, R, pm_tot, x))) rfl ?_
    refine (g_ok (f := 8) q0 rfl).trans ?_
    exact (congrArg (fun z => pm_go call ns d 110 n 96 [some (pm_r 8 i0), some (pm_r 8 i1), u2] [] (z, mB Y o c g, R, pm_tot, x)) (uA (by decide)))
  refine pW_eq 3 (pc' := 101) (L' := [some (pm_r 8 i0), some (pm_r 8 i1), u2]) (S' := []) (M' := (mm x R Z Y o (pm_u (pm_u (pm_u (pm_u (pm_u (pm_u (pm_u (pm_u A 8 i0 6 (nI 1)) 8 i0 7 ((pm_u A 8 i0 6 (nI 1)) 8 i1 0)) 8 i0 8 ((pm_u (pm_u A 8 i0 6 (nI 1)) 8 i0 7 ((pm_u A 8 i0 6 (nI 1)) 8 i1 0)) 8 i1 8)) 8 i0 9 ((pm_u (pm_u (pm_u A 8 i0 6 (nI 1)) 8 i0 7 ((pm_u A 8 i0 6 (nI 1)) 8 i1 0)) 8 i0 8 ((pm_u (pm_u A 8 i0 6 (nI 1)) 8 i0 7 ((pm_u A 8 i0 6 (nI 1)) 8 i1 0)) 8 i1 8)) 8 i1 9)) 8 i0 10 (nI 0)) 8 i0 11 (nI 0)) 8 i0 12 (nI 0)) 8 i0 13 (nI 0)) c G g)) (fun call n => ?_) ?_
  · refine Eq.trans (b := pm_g (mm x R Z Y o (pm_u (pm_u (pm_u (pm_u (pm_u (pm_u (pm_u A 8 i0 6 (nI 1)) 8 i0 7 ((pm_u A 8 i0 6 (nI 1)) 8 i1 0)) 8 i0 8 ((pm_u (pm_u A 8 i0 6 (nI 1)) 8 i0 7 ((pm_u A 8 i0 6 (nI 1)) 8 i1 0)) 8 i1 8)) 8 i0 9 ((pm_u (pm_u (pm_u A 8 i0 6 (nI 1)) 8 i0 7 ((pm_u A 8 i0 6 (nI 1)) 8 i1 0)) 8 i0 8 ((pm_u (pm_u A 8 i0 6 (nI 1)) 8 i0 7 ((pm_u A 8 i0 6 (nI 1)) 8 i1 0)) 8 i1 8)) 8 i1 9)) 8 i0 10 (nI 0)) 8 i0 11 (nI 0)) 8 i0 12 (nI 0)) c G g) 8 i0 (pm_go call ns d 110 n 101 [some (pm_r 8 i0), some (pm_r 8 i1), u2] [] (pm_u (mA Z (pm_u (pm_u (pm_u (pm_u (pm_u (pm_u (pm_u A 8 i0 6 (nI 1)) 8 i0 7 ((pm_u A 8 i0 6 (nI 1)) 8 i1 0)) 8 i0 8 ((pm_u (pm_u A 8 i0 6 (nI 1)) 8 i0 7 ((pm_u A 8 i0 6 (nI 1)) 8 i1 0)) 8 i1 8)) 8 i0 9 ((pm_u (pm_u (pm_u A 8 i0 6 (nI 1)) 8 i0 7 ((pm_u A 8 i0 6 (nI 1)) 8 i1 0)) 8 i0 8 ((pm_u (pm_u A 8 i0 6 (nI 1)) 8 i0 7 ((pm_u A 8 i0 6 (nI 1)) 8 i1 0)) 8 i1 8)) 8 i1 9)) 8 i0 10 (nI 0)) 8 i0 11 (nI 0)) 8 i0 12 (nI 0)) G) 8 i0 13 (nI 0), mB Y o c g, R, pm_tot, x))) rfl ?_
    refine (g_ok (f := 8) q0 rfl).trans ?_
    exact (congrArg (fun z => pm_go call ns d 110 n 101 [some (pm_r 8 i0), some (pm_r 8 i1), u2] [] (z, mB Y o c g, R, pm_tot, x)) (uA (by decide)))
  refine pW_ret 1 (fun call n => ?_) k
  rfl
set_option maxRecDepth 20000 in
theorem b110_34 (hR : RS R) {i0 : Nat} {i1 : Nat} {v2 : Int32} {j1 : Nat} (q0 : i0 < 8) (q1 : i1 < 8) (e1 : v2 = nI j1) (l1 : j1 < 8)  (k : pW ns d 110 28 [some (pm_r 8 i0), some (pm_r 8 i1), some (pm_i (v2 + (nI 1)))] [] (mm x R Z Y o (pm_u A 10 i0 j1 (A 10 i1 j1)) c G g) Q) : pW ns d 110 34 [some (pm_r 8 i0), some (pm_r 8 i1), some (pm_i v2)] [] (mm x R Z Y o A c G g) Q := by
  refine pW_eq 2 (pc' := 38) (L' := [some (pm_r 8 i0), some (pm_r 8 i1), some (pm_i v2)]) (S' := [pm_r 10 i0]) (M' := (mm x R Z Y o A c G g)) (fun call n => ?_) ?_
  · refine Eq.trans (b := pm_g (mm x R Z Y o A c G g) 8 i0 (pm_go call ns d 110 n 38 [some (pm_r 8 i0), some (pm_r 8 i1), some (pm_i v2)] [pm_a (R 8 i0 2)] (mm x R Z Y o A c G g))) rfl ?_
    refine (g_ok (f := 8) q0 rfl).trans ?_
    exact (congrArg (fun z => pm_go call ns d 110 n 38 [some (pm_r 8 i0), some (pm_r 8 i1), some (pm_i v2)] [pm_a z] (mm x R Z Y o A c G g)) (rs_8_2 hR q0))
  refine pW_eq 3 (pc' := 43) (L' := [some (pm_r 8 i0), some (pm_r 8 i1), some (pm_i v2)]) (S' := [pm_r 10 i1, pm_i v2, pm_r 10 i0]) (M' := (mm x R Z Y o A c G g)) (fun call n => ?_) ?_
  · refine Eq.trans (b := pm_g (mm x R Z Y o A c G g) 8 i1 (pm_go call ns d 110 n 43 [some (pm_r 8 i0), some (pm_r 8 i1), some (pm_i v2)] [pm_a (R 8 i1 2), pm_i v2, pm_r 10 i0] (mm x R Z Y o A c G g))) rfl ?_
    refine (g_ok (f := 8) q1 rfl).trans ?_
    exact (congrArg (fun z => pm_go call ns d 110 n 43 [some (pm_r 8 i0), some (pm_r 8 i1), some (pm_i v2)] [pm_a z, pm_i v2, pm_r 10 i0] (mm x R Z Y o A c G g)) (rs_8_2 hR q1))
  refine pW_eq 2 (pc' := 45) (L' := [some (pm_r 8 i0), some (pm_r 8 i1), some (pm_i v2)]) (S' := [pm_i (A 10 i1 j1), pm_i v2, pm_r 10 i0]) (M' := (mm x R Z Y o A c G g)) (fun call n => ?_) ?_
  · refine Eq.trans (b := pm_g (mm x R Z Y o A c G g) 10 i1 (pm_ix (v2) 8 (fun jx => pm_go call ns d 110 n 45 [some (pm_r 8 i0), some (pm_r 8 i1), some (pm_i v2)] [pm_i (A 10 i1 jx), pm_i v2, pm_r 10 i0] (mm x R Z Y o A c G g)))) rfl ?_
    refine (g_ok (f := 10) q1 rfl).trans ?_
    refine (ix_ok (j := j1) e1 l1 (by decide)).trans ?_
    rfl
  refine pW_eq 1 (pc' := 46) (L' := [some (pm_r 8 i0), some (pm_r 8 i1), some (pm_i v2)]) (S' := []) (M' := (mm x R Z Y o (pm_u A 10 i0 j1 (A 10 i1 j1)) c G g)) (fun call n => ?_) ?_
  · refine Eq.trans (b := pm_g (mm x R Z Y o A c G g) 10 i0 (pm_ix (v2) 8 (fun jx => pm_go call ns d 110 n 46 [some (pm_r 8 i0), some (pm_r 8 i1), some (pm_i v2)] [] (pm_u (mA Z A G) 10 i0 jx (A 10 i1 j1), mB Y o c g, R, pm_tot, x)))) rfl ?_
    refine (g_ok (f := 10) q0 rfl).trans ?_
    refine (ix_ok (j := j1) e1 l1 (by decide)).trans ?_
    exact (congrArg (fun z => pm_go call ns d 110 n 46 [some (pm_r 8 i0), some (pm_r 8 i1), some (pm_i v2)] [] (z, mB Y o c g, R, pm_tot, x)) (uA (by decide)))
  exact pW_eq 2 (fun call n => rfl) k
set_option maxRecDepth 20000 in
theorem t110_2 (hR : RS R) {i0 : Nat} {i1 : Nat} {v2 : Int32} (q0 : i0 < 8) (q1 : i1 < 8) (k1 : (nI 6 ≤ v2) → pW ns d 110 28 [some (pm_r 8 i0), some (pm_r 8 i1), some (pm_i (nI 1))] [] (mm x R Z Y o A c G g) Q) (k2 : (¬ (nI 6 ≤ v2)) → pW ns d 110 8 [some (pm_r 8 i0), some (pm_r 8 i1), some (pm_i v2)] [] (mm x R Z Y o A c G g) Q) : pW ns d 110 2 [some (pm_r 8 i0), some (pm_r 8 i1), some (pm_i v2)] [] (mm x R Z Y o A c G g) Q := by
  refine b110_2 hR q0 q1 (fun h1 => ?_) (fun h1 => ?_)
  · skip
    exact b110_26 hR q0 q1  (k1 h1)
  · skip
    exact (k2 h1)
set_option maxRecDepth 20000 in
theorem t110_28 (hR : RS R) {i0 : Nat} {i1 : Nat} {v2 : Int32} (q0 : i0 < 8) (q1 : i1 < 8) (k1 : (nI 7 < v2) → Q (.inl none, (mm x R Z Y o (pm_u (pm_u (pm_u (pm_u (pm_u (pm_u (pm_u (pm_u A 8 i0 6 (nI 1)) 8 i0 7 ((pm_u A 8 i0 6 (nI 1)) 8 i1 0)) 8 i0 8 ((pm_u (pm_u A 8 i0 6 (nI 1)) 8 i0 7 ((pm_u A 8 i0 6 (nI 1)) 8 i1 0)) 8 i1 8)) 8 i0 9 ((pm_u (pm_u (pm_u A 8 i0 6 (nI 1)) 8 i0 7 ((pm_u A 8 i0 6 (nI 1)) 8 i1 0)) 8 i0 8 ((pm_u (pm_u A 8 i0 6 (nI 1)) 8 i0 7 ((pm_u A 8 i0 6 (nI 1)) 8 i1 0)) 8 i1 8)) 8 i1 9)) 8 i0 10 (nI 0)) 8 i0 11 (nI 0)) 8 i0 12 (nI 0)) 8 i0 13 (nI 0)) c G g))) (k2 : (¬ (nI 7 < v2)) → pW ns d 110 34 [some (pm_r 8 i0), some (pm_r 8 i1), some (pm_i v2)] [] (mm x R Z Y o A c G g) Q) : pW ns d 110 28 [some (pm_r 8 i0), some (pm_r 8 i1), some (pm_i v2)] [] (mm x R Z Y o A c G g) Q := by
  refine b110_28 hR q0 q1 (fun h1 => ?_) (fun h1 => ?_)
  · skip
    exact b110_52 hR q0 q1  (k1 h1)
  · skip
    exact (k2 h1)
/-! 111 JobLayer$Task.leave -/
set_option maxRecDepth 20000 in
theorem b111_0 (hR : RS R) {i0 : Nat} {v1 : Int32} {u2 : Option pm_V} (q0 : i0 < 8)  (k : pW ns d 111 2 [some (pm_r 8 i0), some (pm_i v1), some (pm_i (nI 0))] [] (mm x R Z Y o A c G g) Q) : pW ns d 111 0 [some (pm_r 8 i0), some (pm_i v1), u2] [] (mm x R Z Y o A c G g) Q := by
  exact pW_eq 2 (fun call n => rfl) k
set_option maxRecDepth 20000 in
theorem b111_2 (hR : RS R) {i0 : Nat} {v1 : Int32} {v2 : Int32} (q0 : i0 < 8)  (k1 : nI 6 ≤ v2 → pW ns d 111 21 [some (pm_r 8 i0), some (pm_i v1), some (pm_i v2)] [] (mm x R Z Y o A c G g) Q) (k2 : ¬ (nI 6 ≤ v2) → pW ns d 111 8 [some (pm_r 8 i0), some (pm_i v1), some (pm_i v2)] [] (mm x R Z Y o A c G g) Q) : pW ns d 111 2 [some (pm_r 8 i0), some (pm_i v1), some (pm_i v2)] [] (mm x R Z Y o A c G g) Q := by
  exact pW_if 3 (c := nI 6 ≤ v2) (fun call n => rfl) k1 k2
set_option maxRecDepth 20000 in
theorem b111_21 (hR : RS R) {i0 : Nat} {v1 : Int32} {u2 : Option pm_V} (q0 : i0 < 8)  (k : Q (.inl none, (mm x R Z Y o (pm_u (pm_u (pm_u A 13 i0 0 (nI 0)) 8 i0 10 (nI 0)) 8 i0 14 v1) c G g))) : pW ns d 111 21 [some (pm_r 8 i0), some (pm_i v1), u2] [] (mm x R Z Y o A c G g) Q := by
  refine pW_eq 2 (pc' := 25) (L' := [some (pm_r 8 i0), some (pm_i v1), u2]) (S' := [pm_r 13 i0]) (M' := (mm x R Z Y o A c G g)) (fun call n => ?_) ?_
  · refine Eq.trans (b := pm_g (mm x R Z Y o A c G g) 8 i0 (pm_go call ns d 111 n 25 [some (pm_r 8 i0), some (pm_i v1), u2] [pm_a (R 8 i0 5)] (mm x R Z Y o A c G g))) rfl ?_
    refine (g_ok (f := 8) q0 rfl).trans ?_
    exact (congrArg (fun z => pm_go call ns d 111 n 25 [some (pm_r 8 i0), some (pm_i v1), u2] [pm_a z] (mm x R Z Y o A c G g)) (rs_8_5 hR q0))
  refine pW_eq 2 (pc' := 29) (L' := [some (pm_r 8 i0), some (pm_i v1), u2]) (S' := []) (M' := (mm x R Z Y o (pm_u A 13 i0 0 (nI 0)) c G g)) (fun call n => ?_) ?_
  · refine Eq.trans (b := pm_g (mm x R Z Y o A c G g) 13 i0 (pm_go call ns d 111 n 29 [some (pm_r 8 i0), some (pm_i v1), u2] [] (pm_u (mA Z A G) 13 i0 0 (nI 0), mB Y o c g, R, pm_tot, x))) rfl ?_
    refine (g_ok (f := 13) q0 rfl).trans ?_
    exact (congrArg (fun z => pm_go call ns d 111 n 29 [some (pm_r 8 i0), some (pm_i v1), u2] [] (z, mB Y o c g, R, pm_tot, x)) (uA (by decide)))
  refine pW_eq 3 (pc' := 34) (L' := [some (pm_r 8 i0), some (pm_i v1), u2]) (S' := []) (M' := (mm x R Z Y o (pm_u (pm_u A 13 i0 0 (nI 0)) 8 i0 10 (nI 0)) c G g)) (fun call n => ?_) ?_
  · refine Eq.trans (b := pm_g (mm x R Z Y o (pm_u A 13 i0 0 (nI 0)) c G g) 8 i0 (pm_go call ns d 111 n 34 [some (pm_r 8 i0), some (pm_i v1), u2] [] (pm_u (mA Z (pm_u A 13 i0 0 (nI 0)) G) 8 i0 10 (nI 0), mB Y o c g, R, pm_tot, x))) rfl ?_
    refine (g_ok (f := 8) q0 rfl).trans ?_
    exact (congrArg (fun z => pm_go call ns d 111 n 34 [some (pm_r 8 i0), some (pm_i v1), u2] [] (z, mB Y o c g, R, pm_tot, x)) (uA (by decide)))
  refine pW_eq 3 (pc' := 39) (L' := [some (pm_r 8 i0), some (pm_i v1), u2]) (S' := []) (M' := (mm x R Z Y o (pm_u (pm_u (pm_u A 13 i0 0 (nI 0)) 8 i0 10 (nI 0)) 8 i0 14 v1) c G g)) (fun call n => ?_) ?_
  · refine Eq.trans (b := pm_g (mm x R Z Y o (pm_u (pm_u A 13 i0 0 (nI 0)) 8 i0 10 (nI 0)) c G g) 8 i0 (pm_go call ns d 111 n 39 [some (pm_r 8 i0), some (pm_i v1), u2] [] (pm_u (mA Z (pm_u (pm_u A 13 i0 0 (nI 0)) 8 i0 10 (nI 0)) G) 8 i0 14 v1, mB Y o c g, R, pm_tot, x))) rfl ?_
    refine (g_ok (f := 8) q0 rfl).trans ?_
    exact (congrArg (fun z => pm_go call ns d 111 n 39 [some (pm_r 8 i0), some (pm_i v1), u2] [] (z, mB Y o c g, R, pm_tot, x)) (uA (by decide)))
  refine pW_ret 1 (fun call n => ?_) k
  rfl
set_option maxRecDepth 20000 in
theorem b111_8 (hR : RS R) {i0 : Nat} {v1 : Int32} {v2 : Int32} {j1 : Nat} (q0 : i0 < 8) (e1 : v2 = nI j1) (l1 : j1 < 6)  (k : pW ns d 111 2 [some (pm_r 8 i0), some (pm_i v1), some (pm_i (v2 + (nI 1)))] [] (mm x R Z Y o (pm_u A 9 i0 j1 (nI 0)) c G g) Q) : pW ns d 111 8 [some (pm_r 8 i0), some (pm_i v1), some (pm_i v2)] [] (mm x R Z Y o A c G g) Q := by
  refine pW_eq 2 (pc' := 12) (L' := [some (pm_r 8 i0), some (pm_i v1), some (pm_i v2)]) (S' := [pm_r 9 i0]) (M' := (mm x R Z Y o A c G g)) (fun call n => ?_) ?_
  · refine Eq.trans (b := pm_g (mm x R Z Y o A c G g) 8 i0 (pm_go call ns d 111 n 12 [some (pm_r 8 i0), some (pm_i v1), some (pm_i v2)] [pm_a (R 8 i0 1)] (mm x R Z Y o A c G g))) rfl ?_
    refine (g_ok (f := 8) q0 rfl).trans ?_
    exact (congrArg (fun z => pm_go call ns d 111 n 12 [some (pm_r 8 i0), some (pm_i v1), some (pm_i v2)] [pm_a z] (mm x R Z Y o A c G g)) (rs_8_1 hR q0))
  refine pW_eq 3 (pc' := 15) (L' := [some (pm_r 8 i0), some (pm_i v1), some (pm_i v2)]) (S' := []) (M' := (mm x R Z Y o (pm_u A 9 i0 j1 (nI 0)) c G g)) (fun call n => ?_) ?_
  · refine Eq.trans (b := pm_g (mm x R Z Y o A c G g) 9 i0 (pm_ix (v2) 6 (fun jx => pm_go call ns d 111 n 15 [some (pm_r 8 i0), some (pm_i v1), some (pm_i v2)] [] (pm_u (mA Z A G) 9 i0 jx (nI 0), mB Y o c g, R, pm_tot, x)))) rfl ?_
    refine (g_ok (f := 9) q0 rfl).trans ?_
    refine (ix_ok (j := j1) e1 l1 (by decide)).trans ?_
    exact (congrArg (fun z => pm_go call ns d 111 n 15 [some (pm_r 8 i0), some (pm_i v1), some (pm_i v2)] [] (z, mB Y o c g, R, pm_tot, x)) (uA (by decide)))
  exact pW_eq 2 (fun call n => rfl) k
set_option maxRecDepth 20000 in
theorem t111_2 (hR : RS R) {i0 : Nat} {v1 : Int32} {v2 : Int32} (q0 : i0 < 8) (k1 : (nI 6 ≤ v2) → Q (.inl none, (mm x R Z Y o (pm_u (pm_u (pm_u A 13 i0 0 (nI 0)) 8 i0 10 (nI 0)) 8 i0 14 v1) c G g))) (k2 : (¬ (nI 6 ≤ v2)) → pW ns d 111 8 [some (pm_r 8 i0), some (pm_i v1), some (pm_i v2)] [] (mm x R Z Y o A c G g) Q) : pW ns d 111 2 [some (pm_r 8 i0), some (pm_i v1), some (pm_i v2)] [] (mm x R Z Y o A c G g) Q := by
  refine b111_2 hR q0 (fun h1 => ?_) (fun h1 => ?_)
  · skip
    exact b111_21 hR q0  (k1 h1)
  · skip
    exact (k2 h1)
/-! 112 JobLayer$Task.isAlive -/
set_option maxRecDepth 20000 in
theorem b112_0 (hR : RS R) {i0 : Nat} (q0 : i0 < 8)  (k1 : A 8 i0 6 = 0 → pW ns d 112 19 [some (pm_r 8 i0)] [] (mm x R Z Y o A c G g) Q) (k2 : ¬ (A 8 i0 6 = 0) → pW ns d 112 7 [some (pm_r 8 i0)] [] (mm x R Z Y o A c G g) Q) : pW ns d 112 0 [some (pm_r 8 i0)] [] (mm x R Z Y o A c G g) Q := by
  refine pW_eq 2 (pc' := 4) (L' := [some (pm_r 8 i0)]) (S' := [pm_i (A 8 i0 6)]) (M' := (mm x R Z Y o A c G g)) (fun call n => ?_) ?_
  · refine Eq.trans (b := pm_g (mm x R Z Y o A c G g) 8 i0 (pm_go call ns d 112 n 4 [some (pm_r 8 i0)] [pm_i (A 8 i0 6)] (mm x R Z Y o A c G g))) rfl ?_
    refine (g_ok (f := 8) q0 rfl).trans ?_
    rfl
  exact pW_if 1 (c := A 8 i0 6 = 0) (fun call n => rfl) k1 k2
set_option maxRecDepth 20000 in
theorem b112_19 (hR : RS R) {u0 : Option pm_V}   (k : Q (.inl (some (pm_i (nI 0))), (mm x R Z Y o A c G g))) : pW ns d 112 19 [u0] [] (mm x R Z Y o A c G g) Q := by
  refine pW_ret 2 (fun call n => ?_) k
  exact Eq.trans (b := pm_bo (nI 0) (some (.inl (some (pm_i (nI 0))), (mm x R Z Y o A c G g)))) rfl (bo_ok (by decide))
set_option maxRecDepth 20000 in
theorem b112_7 (hR : RS R) {i0 : Nat} (q0 : i0 < 8)  (k1 : A 8 i0 6 = nI 4 → pW ns d 112 19 [some (pm_r 8 i0)] [] (mm x R Z Y o A c G g) Q) (k2 : ¬ (A 8 i0 6 = nI 4) → pW ns d 112 15 [some (pm_r 8 i0)] [] (mm x R Z Y o A c G g) Q) : pW ns d 112 7 [some (pm_r 8 i0)] [] (mm x R Z Y o A c G g) Q := by
  refine pW_eq 2 (pc' := 11) (L' := [some (pm_r 8 i0)]) (S' := [pm_i (A 8 i0 6)]) (M' := (mm x R Z Y o A c G g)) (fun call n => ?_) ?_
  · refine Eq.trans (b := pm_g (mm x R Z Y o A c G g) 8 i0 (pm_go call ns d 112 n 11 [some (pm_r 8 i0)] [pm_i (A 8 i0 6)] (mm x R Z Y o A c G g))) rfl ?_
    refine (g_ok (f := 8) q0 rfl).trans ?_
    rfl
  exact pW_if 2 (c := A 8 i0 6 = nI 4) (fun call n => rfl) k1 k2
set_option maxRecDepth 20000 in
theorem b112_15 (hR : RS R) {u0 : Option pm_V}   (k : Q (.inl (some (pm_i (nI 1))), (mm x R Z Y o A c G g))) : pW ns d 112 15 [u0] [] (mm x R Z Y o A c G g) Q := by
  refine pW_ret 3 (fun call n => ?_) k
  exact Eq.trans (b := pm_bo (nI 1) (some (.inl (some (pm_i (nI 1))), (mm x R Z Y o A c G g)))) rfl (bo_ok (by decide))
set_option maxRecDepth 20000 in
theorem t112_0 (hR : RS R) {i0 : Nat} (q0 : i0 < 8) (k1 : (A 8 i0 6 = 0) → Q (.inl (some (pm_i (nI 0))), (mm x R Z Y o A c G g))) (k2 : (¬ (A 8 i0 6 = 0)) → (A 8 i0 6 = nI 4) → Q (.inl (some (pm_i (nI 0))), (mm x R Z Y o A c G g))) (k3 : (¬ (A 8 i0 6 = 0)) → (¬ (A 8 i0 6 = nI 4)) → Q (.inl (some (pm_i (nI 1))), (mm x R Z Y o A c G g))) : pW ns d 112 0 [some (pm_r 8 i0)] [] (mm x R Z Y o A c G g) Q := by
  refine b112_0 hR q0 (fun h1 => ?_) (fun h1 => ?_)
  · skip
    exact b112_19 hR   (k1 h1)
  · skip
    refine b112_7 hR q0  (fun h2 => ?_) (fun h2 => ?_)
    · skip
      exact b112_19 hR   (k2 h1 h2)
    · skip
      exact b112_15 hR   (k3 h1 h2)
set_option maxRecDepth 20000 in
theorem t112_7 (hR : RS R) {i0 : Nat} (q0 : i0 < 8) (k1 : (A 8 i0 6 = nI 4) → Q (.inl (some (pm_i (nI 0))), (mm x R Z Y o A c G g))) (k2 : (¬ (A 8 i0 6 = nI 4)) → Q (.inl (some (pm_i (nI 1))), (mm x R Z Y o A c G g))) : pW ns d 112 7 [some (pm_r 8 i0)] [] (mm x R Z Y o A c G g) Q := by
  refine b112_7 hR q0 (fun h1 => ?_) (fun h1 => ?_)
  · skip
    exact b112_19 hR   (k1 h1)
  · skip
    exact b112_15 hR   (k2 h1)
/-! 113 JobLayer$Task.fileValue -/
set_option maxRecDepth 20000 in
theorem b113_0 (hR : RS R) {i0 : Nat} {v1 : Int32} (q0 : i0 < 8)  (k1 : v1 < 0 → pW ns d 113 19 [some (pm_r 8 i0), some (pm_i v1)] [] (mm x R Z Y o A c G g) Q) (k2 : ¬ (v1 < 0) → pW ns d 113 4 [some (pm_r 8 i0), some (pm_i v1)] [] (mm x R Z Y o A c G g) Q) : pW ns d 113 0 [some (pm_r 8 i0), some (pm_i v1)] [] (mm x R Z Y o A c G g) Q := by
  exact pW_if 2 (c := v1 < 0) (fun call n => rfl) k1 k2
set_option maxRecDepth 20000 in
theorem b113_19 (hR : RS R) {u0 : Option pm_V} {u1 : Option pm_V}   (k : Q (.inl (some (pm_i (nI 0))), (mm x R Z Y o A c G g))) : pW ns d 113 19 [u0, u1] [] (mm x R Z Y o A c G g) Q := by
  refine pW_ret 2 (fun call n => ?_) k
  rfl
set_option maxRecDepth 20000 in
theorem b113_4 (hR : RS R) {i0 : Nat} {v1 : Int32} (q0 : i0 < 8)  (k1 : nI 6 ≤ v1 → pW ns d 113 19 [some (pm_r 8 i0), some (pm_i v1)] [] (mm x R Z Y o A c G g) Q) (k2 : ¬ (nI 6 ≤ v1) → pW ns d 113 10 [some (pm_r 8 i0), some (pm_i v1)] [] (mm x R Z Y o A c G g) Q) : pW ns d 113 4 [some (pm_r 8 i0), some (pm_i v1)] [] (mm x R Z Y o A c G g) Q := by
  exact pW_if 3 (c := nI 6 ≤ v1) (fun call n => rfl) k1 k2
set_option maxRecDepth 20000 in
theorem b113_10 (hR : RS R) {i0 : Nat} {v1 : Int32} {j1 : Nat} (q0 : i0 < 8) (e1 : v1 = nI j1) (l1 : j1 < 6)  (k : Q (.inl (some (pm_i (A 9 i0 j1))), (mm x R Z Y o A c G g))) : pW ns d 113 10 [some (pm_r 8 i0), some (pm_i v1)] [] (mm x R Z Y o A c G g) Q := by
  refine pW_eq 2 (pc' := 14) (L' := [some (pm_r 8 i0), some (pm_i v1)]) (S' := [pm_r 9 i0]) (M' := (mm x R Z Y o A c G g)) (fun call n => ?_) ?_
  · refine Eq.trans (b := pm_g (mm x R Z Y o A c G g) 8 i0 (pm_go call ns d 113 n 14 [some (pm_r 8 i0), some (pm_i v1)] [pm_a (R 8 i0 1)] (mm x R Z Y o A c G g))) rfl ?_
    refine (g_ok (f := 8) q0 rfl).trans ?_
    exact (congrArg (fun z => pm_go call ns d 113 n 14 [some (pm_r 8 i0), some (pm_i v1)] [pm_a z] (mm x R Z Y o A c G g)) (rs_8_1 hR q0))
  refine pW_eq 2 (pc' := 16) (L' := [some (pm_r 8 i0), some (pm_i v1)]) (S' := [pm_i (A 9 i0 j1)]) (M' := (mm x R Z Y o A c G g)) (fun call n => ?_) ?_
  · refine Eq.trans (b := pm_g (mm x R Z Y o A c G g) 9 i0 (pm_ix (v1) 6 (fun jx => pm_go call ns d 113 n 16 [some (pm_r 8 i0), some (pm_i v1)] [pm_i (A 9 i0 jx)] (mm x R Z Y o A c G g)))) rfl ?_
    refine (g_ok (f := 9) q0 rfl).trans ?_
    refine (ix_ok (j := j1) e1 l1 (by decide)).trans ?_
    rfl
  refine pW_ret 2 (fun call n => ?_) k
  rfl
set_option maxRecDepth 20000 in
theorem t113_0 (hR : RS R) {i0 : Nat} {v1 : Int32} (q0 : i0 < 8) (k1 : (v1 < 0) → Q (.inl (some (pm_i (nI 0))), (mm x R Z Y o A c G g))) (k2 : (¬ (v1 < 0)) → (nI 6 ≤ v1) → Q (.inl (some (pm_i (nI 0))), (mm x R Z Y o A c G g))) (k3 : (¬ (v1 < 0)) → (¬ (nI 6 ≤ v1)) → pW ns d 113 10 [some (pm_r 8 i0), some (pm_i v1)] [] (mm x R Z Y o A c G g) Q) : pW ns d 113 0 [some (pm_r 8 i0), some (pm_i v1)] [] (mm x R Z Y o A c G g) Q := by
  refine b113_0 hR q0 (fun h1 => ?_) (fun h1 => ?_)
  · skip
    exact b113_19 hR   (k1 h1)
  · skip
    refine b113_4 hR q0  (fun h2 => ?_) (fun h2 => ?_)
    · skip
      exact b113_19 hR   (k2 h1 h2)
    · skip
      exact (k3 h1 h2)
set_option maxRecDepth 20000 in
theorem t113_4 (hR : RS R) {i0 : Nat} {v1 : Int32} (q0 : i0 < 8) (k1 : (nI 6 ≤ v1) → Q (.inl (some (pm_i (nI 0))), (mm x R Z Y o A c G g))) (k2 : (¬ (nI 6 ≤ v1)) → pW ns d 113 10 [some (pm_r 8 i0), some (pm_i v1)] [] (mm x R Z Y o A c G g) Q) : pW ns d 113 4 [some (pm_r 8 i0), some (pm_i v1)] [] (mm x R Z Y o A c G g) Q := by
  refine b113_4 hR q0 (fun h1 => ?_) (fun h1 => ?_)
  · skip
    exact b113_19 hR   (k1 h1)
  · skip
    exact (k2 h1)
/-! 114 JobLayer$Task.leastUnusedFile -/
set_option maxRecDepth 20000 in
theorem b114_0 (hR : RS R) {i0 : Nat} {v1 : Int32} {u2 : Option pm_V} (q0 : i0 < 8)  (k : pW ns d 114 2 [some (pm_r 8 i0), some (pm_i v1), some (pm_i v1)] [] (mm x R Z Y o A c G g) Q) : pW ns d 114 0 [some (pm_r 8 i0), some (pm_i v1), u2] [] (mm x R Z Y o A c G g) Q := by
  exact pW_eq 2 (fun call n => rfl) k
set_option maxRecDepth 20000 in
theorem b114_2 (hR : RS R) {i0 : Nat} {v1 : Int32} {v2 : Int32} (q0 : i0 < 8)  (k1 : nI 6 ≤ v2 → pW ns d 114 25 [some (pm_r 8 i0), some (pm_i v1), some (pm_i v2)] [] (mm x R Z Y o A c G g) Q) (k2 : ¬ (nI 6 ≤ v2) → pW ns d 114 8 [some (pm_r 8 i0), some (pm_i v1), some (pm_i v2)] [] (mm x R Z Y o A c G g) Q) : pW ns d 114 2 [some (pm_r 8 i0), some (pm_i v1), some (pm_i v2)] [] (mm x R Z Y o A c G g) Q := by
  exact pW_if 3 (c := nI 6 ≤ v2) (fun call n => rfl) k1 k2
set_option maxRecDepth 20000 in
theorem b114_25 (hR : RS R) {u0 : Option pm_V} {u1 : Option pm_V} {u2 : Option pm_V}   (k : Q (.inl (some (pm_i (nI 6))), (mm x R Z Y o A c G g))) : pW ns d 114 25 [u0, u1, u2] [] (mm x R Z Y o A c G g) Q := by
  refine pW_ret 2 (fun call n => ?_) k
  rfl
set_option maxRecDepth 20000 in
theorem b114_8 (hR : RS R) {i0 : Nat} {v1 : Int32} {v2 : Int32} {j1 : Nat} (q0 : i0 < 8) (e1 : v2 = nI j1) (l1 : j1 < 6)  (k1 : A 9 i0 j1 = 0 → pW ns d 114 17 [some (pm_r 8 i0), some (pm_i v1), some (pm_i v2)] [] (mm x R Z Y o A c G g) Q) (k2 : ¬ (A 9 i0 j1 = 0) → pW ns d 114 19 [some (pm_r 8 i0), some (pm_i v1), some (pm_i v2)] [] (mm x R Z Y o A c G g) Q) : pW ns d 114 8 [some (pm_r 8 i0), some (pm_i v1), some (pm_i v2)] [] (mm x R Z Y o A c G g) Q := by
  refine pW_eq 2 (pc' := 12) (L' := [some (pm_r 8 i0), some (pm_i v1), some (pm_i v2)]) (S' := [pm_r 9 i0]) (M' := (mm x R Z Y o A c G g)) (fun call n => ?_) ?_
  · refine Eq.trans (b := pm_g (mm x R Z Y o A c G g) 8 i0 (pm_go call ns d 114 n 12 [some (pm_r 8 i0), some (pm_i v1), some (pm_i v2)] [pm_a (R 8 i0 1)] (mm x R Z Y o A c G g))) rfl ?_
    refine (g_ok (f := 8) q0 rfl).trans ?_
    exact (congrArg (fun z => pm_go call ns d 114 n 12 [some (pm_r 8 i0), some (pm_i v1), some (pm_i v2)] [pm_a z] (mm x R Z Y o A c G g)) (rs_8_1 hR q0))
  refine pW_eq 2 (pc' := 14) (L' := [some (pm_r 8 i0), some (pm_i v1), some (pm_i v2)]) (S' := [pm_i (A 9 i0 j1)]) (M' := (mm x R Z Y o A c G g)) (fun call n => ?_) ?_
  · refine Eq.trans (b := pm_g (mm x R Z Y o A c G g) 9 i0 (pm_ix (v2) 6 (fun jx => pm_go call ns d 114 n 14 [some (pm_r 8 i0), some (pm_i v1), some (pm_i v2)] [pm_i (A 9 i0 jx)] (mm x R Z Y o A c G g)))) rfl ?_
    refine (g_ok (f := 9) q0 rfl).trans ?_
    refine (ix_ok (j := j1) e1 l1 (by decide)).trans ?_
    rfl
  exact pW_if 1 (c := A 9 i0 j1 = 0) (fun call n => rfl) k1 k2
set_option maxRecDepth 20000 in
theorem b114_17 (hR : RS R) {u0 : Option pm_V} {u1 : Option pm_V} {v2 : Int32}   (k : Q (.inl (some (pm_i v2)), (mm x R Z Y o A c G g))) : pW ns d 114 17 [u0, u1, some (pm_i v2)] [] (mm x R Z Y o A c G g) Q := by
  refine pW_ret 2 (fun call n => ?_) k
  rfl
set_option maxRecDepth 20000 in
theorem b114_19 (hR : RS R) {i0 : Nat} {v1 : Int32} {v2 : Int32} (q0 : i0 < 8)  (k : pW ns d 114 2 [some (pm_r 8 i0), some (pm_i v1), some (pm_i (v2 + (nI 1)))] [] (mm x R Z Y o A c G g) Q) : pW ns d 114 19 [some (pm_r 8 i0), some (pm_i v1), some (pm_i v2)] [] (mm x R Z Y o A c G g) Q := by
  exact pW_eq 2 (fun call n => rfl) k
set_option maxRecDepth 20000 in
theorem t114_2 (hR : RS R) {i0 : Nat} {v1 : Int32} {v2 : Int32} (q0 : i0 < 8) (k1 : (nI 6 ≤ v2) → Q (.inl (some (pm_i (nI 6))), (mm x R Z Y o A c G g))) (k2 : (¬ (nI 6 ≤ v2)) → pW ns d 114 8 [some (pm_r 8 i0), some (pm_i v1), some (pm_i v2)] [] (mm x R Z Y o A c G g) Q) : pW ns d 114 2 [some (pm_r 8 i0), some (pm_i v1), some (pm_i v2)] [] (mm x R Z Y o A c G g) Q := by
  refine b114_2 hR q0 (fun h1 => ?_) (fun h1 => ?_)
  · skip
    exact b114_25 hR   (k1 h1)
  · skip
    exact (k2 h1)
set_option maxRecDepth 20000 in
theorem t114_8 (hR : RS R) {i0 : Nat} {v1 : Int32} {v2 : Int32} {j1 : Nat} (q0 : i0 < 8) (e1 : v2 = nI j1) (l1 : j1 < 6) (k1 : (A 9 i0 j1 = 0) → Q (.inl (some (pm_i v2)), (mm x R Z Y o A c G g))) (k2 : (¬ (A 9 i0 j1 = 0)) → pW ns d 114 2 [some (pm_r 8 i0), some (pm_i v1), some (pm_i (v2 + (nI 1)))] [] (mm x R Z Y o A c G g) Q) : pW ns d 114 8 [some (pm_r 8 i0), some (pm_i v1), some (pm_i v2)] [] (mm x R Z Y o A c G g) Q := by
  refine b114_8 hR q0 e1 l1 (fun h1 => ?_) (fun h1 => ?_)
  · skip
    exact b114_17 hR   (k1 h1)
  · skip
    exact b114_19 hR q0  (k2 h1)
/-! 115 JobLayer$Task.isMasked -/
set_option maxRecDepth 20000 in
theorem b115_0 (hR : RS R) {i0 : Nat} {v1 : Int32} (q0 : i0 < 8)  (k1 : (A 8 i0 9) &&& ((nI 1) <<< (v1 &&& 31)) = 0 → pW ns d 115 15 [some (pm_r 8 i0), some (pm_i v1)] [] (mm x R Z Y o A c G g) Q) (k2 : ¬ ((A 8 i0 9) &&& ((nI 1) <<< (v1 &&& 31)) = 0) → pW ns d 115 11 [some (pm_r 8 i0), some (pm_i v1)] [] (mm x R Z Y o A c G g) Q) : pW ns d 115 0 [some (pm_r 8 i0), some (pm_i v1)] [] (mm x R Z Y o A c G g) Q := by
  refine pW_eq 2 (pc' := 4) (L' := [some (pm_r 8 i0), some (pm_i v1)]) (S' := [pm_i (A 8 i0 9)]) (M' := (mm x R Z Y o A c G g)) (fun call n => ?_) ?_
  · refine Eq.trans (b := pm_g (mm x R Z Y o A c G g) 8 i0 (pm_go call ns d 115 n 4 [some (pm_r 8 i0), some (pm_i v1)] [pm_i (A 8 i0 9)] (mm x R Z Y o A c G g))) rfl ?_
    refine (g_ok (f := 8) q0 rfl).trans ?_
    rfl
  exact pW_if 5 (c := (A 8 i0 9) &&& ((nI 1) <<< (v1 &&& 31)) = 0) (fun call n => rfl) k1 k2
set_option maxRecDepth 20000 in
theorem b115_15 (hR : RS R) {u0 : Option pm_V} {u1 : Option pm_V}   (k : Q (.inl (some (pm_i (nI 0))), (mm x R Z Y o A c G g))) : pW ns d 115 15 [u0, u1] [] (mm x R Z Y o A c G g) Q := by
  refine pW_ret 2 (fun call n => ?_) k
  exact Eq.trans (b := pm_bo (nI 0) (some (.inl (some (pm_i (nI 0))), (mm x R Z Y o A c G g)))) rfl (bo_ok (by decide))
set_option maxRecDepth 20000 in
theorem b115_11 (hR : RS R) {u0 : Option pm_V} {u1 : Option pm_V}   (k : Q (.inl (some (pm_i (nI 1))), (mm x R Z Y o A c G g))) : pW ns d 115 11 [u0, u1] [] (mm x R Z Y o A c G g) Q := by
  refine pW_ret 3 (fun call n => ?_) k
  exact Eq.trans (b := pm_bo (nI 1) (some (.inl (some (pm_i (nI 1))), (mm x R Z Y o A c G g)))) rfl (bo_ok (by decide))
set_option maxRecDepth 20000 in
theorem t115_0 (hR : RS R) {i0 : Nat} {v1 : Int32} (q0 : i0 < 8) (k1 : ((A 8 i0 9) &&& ((nI 1) <<< (v1 &&& 31)) = 0) → Q (.inl (some (pm_i (nI 0))), (mm x R Z Y o A c G g))) (k2 : (¬ ((A 8 i0 9) &&& ((nI 1) <<< (v1 &&& 31)) = 0)) → Q (.inl (some (pm_i (nI 1))), (mm x R Z Y o A c G g))) : pW ns d 115 0 [some (pm_r 8 i0), some (pm_i v1)] [] (mm x R Z Y o A c G g) Q := by
  refine b115_0 hR q0 (fun h1 => ?_) (fun h1 => ?_)
  · skip
    exact b115_15 hR   (k1 h1)
  · skip
    exact b115_11 hR   (k2 h1)
/-! 116 JobLayer$Task.isDue -/
set_option maxRecDepth 20000 in
theorem b116_0 (hR : RS R) {i0 : Nat} {v1 : Int32} (q0 : i0 < 8)  (k1 : (A 8 i0 10) &&& ((nI 1) <<< (v1 &&& 31)) = 0 → pW ns d 116 23 [some (pm_r 8 i0), some (pm_i v1)] [] (mm x R Z Y o A c G g) Q) (k2 : ¬ ((A 8 i0 10) &&& ((nI 1) <<< (v1 &&& 31)) = 0) → pW ns d 116 11 [some (pm_r 8 i0), some (pm_i v1)] [] (mm x R Z Y o A c G g) Q) : pW ns d 116 0 [some (pm_r 8 i0), some (pm_i v1)] [] (mm x R Z Y o A c G g) Q := by
  refine pW_eq 2 (pc' := 4) (L' := [some (pm_r 8 i0), some (pm_i v1)]) (S' := [pm_i (A 8 i0 10)]) (M' := (mm x R Z Y o A c G g)) (fun call n => ?_) ?_
  · refine Eq.trans (b := pm_g (mm x R Z Y o A c G g) 8 i0 (pm_go call ns d 116 n 4 [some (pm_r 8 i0), some (pm_i v1)] [pm_i (A 8 i0 10)] (mm x R Z Y o A c G g))) rfl ?_
    refine (g_ok (f := 8) q0 rfl).trans ?_
    rfl
  exact pW_if 5 (c := (A 8 i0 10) &&& ((nI 1) <<< (v1 &&& 31)) = 0) (fun call n => rfl) k1 k2
set_option maxRecDepth 20000 in
theorem b116_23 (hR : RS R) {u0 : Option pm_V} {u1 : Option pm_V}   (k : Q (.inl (some (pm_i (nI 0))), (mm x R Z Y o A c G g))) : pW ns d 116 23 [u0, u1] [] (mm x R Z Y o A c G g) Q := by
  refine pW_ret 2 (fun call n => ?_) k
  exact Eq.trans (b := pm_bo (nI 0) (some (.inl (some (pm_i (nI 0))), (mm x R Z Y o A c G g)))) rfl (bo_ok (by decide))
set_option maxRecDepth 20000 in
theorem b116_11 (hR : RS R) {i0 : Nat} {v1 : Int32} (q0 : i0 < 8) {x2 : Nat} {o2 : Int64} {A2 : Nat → Nat → Nat → Int32} {c2 : Nat → Int64} {G2 : Nat → Nat → Int32} {g2 : Nat → Int64} {y : Int32} (hE : pE ns d 115 [pm_r 8 i0, pm_i v1] (mm x R Z Y o A c G g) (.inl (some (pm_i y)), (mm x2 R Z Y o2 A2 c2 G2 g2))) (k : pW ns d 116 16 [some (pm_r 8 i0), some (pm_i v1)] [pm_i y] (mm x2 R Z Y o2 A2 c2 G2 g2) Q) : pW ns d 116 11 [some (pm_r 8 i0), some (pm_i v1)] [] (mm x R Z Y o A c G g) Q := by
  refine pW_call (pc' := 13) (r := []) (L' := [some (pm_r 8 i0), some (pm_i v1)]) 3 (fun call n => ?_) hE k
  exact Eq.trans (b := pm_g (mm x R Z Y o A c G g) 8 i0 (pm_cl call 116 (pm_go call ns d 116 n) 13 115 [pm_r 8 i0, pm_i v1] [] [some (pm_r 8 i0), some (pm_i v1)] (mm x R Z Y o A c G g))) rfl (g_ok (f := 8) q0 rfl)
set_option maxRecDepth 20000 in
theorem b116_16 (hR : RS R) {u0 : Option pm_V} {u1 : Option pm_V} {vs0 : Int32}   (k1 : vs0 = 0 → pW ns d 116 19 [u0, u1] [] (mm x R Z Y o A c G g) Q) (k2 : ¬ (vs0 = 0) → pW ns d 116 23 [u0, u1] [] (mm x R Z Y o A c G g) Q) : pW ns d 116 16 [u0, u1] [pm_i vs0] (mm x R Z Y o A c G g) Q := by
  exact pW_if 1 (c := vs0 = 0) (fun call n => rfl) k1 k2
set_option maxRecDepth 20000 in
theorem b116_19 (hR : RS R) {u0 : Option pm_V} {u1 : Option pm_V}   (k : Q (.inl (some (pm_i (nI 1))), (mm x R Z Y o A c G g))) : pW ns d 116 19 [u0, u1] [] (mm x R Z Y o A c G g) Q := by
  refine pW_ret 3 (fun call n => ?_) k
  exact Eq.trans (b := pm_bo (nI 1) (some (.inl (some (pm_i (nI 1))), (mm x R Z Y o A c G g)))) rfl (bo_ok (by decide))
set_option maxRecDepth 20000 in
theorem t116_0 (hR : RS R) {i0 : Nat} {v1 : Int32} (q0 : i0 < 8) (k1 : ((A 8 i0 10) &&& ((nI 1) <<< (v1 &&& 31)) = 0) → Q (.inl (some (pm_i (nI 0))), (mm x R Z Y o A c G g))) (k2 : (¬ ((A 8 i0 10) &&& ((nI 1) <<< (v1 &&& 31)) = 0)) → pW ns d 116 11 [some (pm_r 8 i0), some (pm_i v1)] [] (mm x R Z Y o A c G g) Q) : pW ns d 116 0 [some (pm_r 8 i0), some (pm_i v1)] [] (mm x R Z Y o A c G g) Q := by
  refine b116_0 hR q0 (fun h1 => ?_) (fun h1 => ?_)
  · skip
    exact b116_23 hR   (k1 h1)
  · skip
    exact (k2 h1)
set_option maxRecDepth 20000 in
theorem t116_16 (hR : RS R) {u0 : Option pm_V} {u1 : Option pm_V} {vs0 : Int32}  (k1 : (vs0 = 0) → Q (.inl (some (pm_i (nI 1))), (mm x R Z Y o A c G g))) (k2 : (¬ (vs0 = 0)) → Q (.inl (some (pm_i (nI 0))), (mm x R Z Y o A c G g))) : pW ns d 116 16 [u0, u1] [pm_i vs0] (mm x R Z Y o A c G g) Q := by
  refine b116_16 hR  (fun h1 => ?_) (fun h1 => ?_)
  · skip
    exact b116_19 hR   (k1 h1)
  · skip
    exact b116_23 hR   (k2 h1)
/-! 117 JobLayer$Task.forget -/
set_option maxRecDepth 20000 in
theorem b117_0 (hR : RS R) {i0 : Nat} {v1 : Int32} (q0 : i0 < 8)  (k : Q (.inl none, (mm x R Z Y o (pm_u A 8 i0 10 ((A 8 i0 10) &&& (((nI 1) <<< (v1 &&& 31)) ^^^ (-nI 1)))) c G g))) : pW ns d 117 0 [some (pm_r 8 i0), some (pm_i v1)] [] (mm x R Z Y o A c G g) Q := by
  refine pW_eq 3 (pc' := 5) (L' := [some (pm_r 8 i0), some (pm_i v1)]) (S' := [pm_i (A 8 i0 10), pm_r 8 i0]) (M' := (mm x R Z Y o A c G g)) (fun call n => ?_) ?_
  · refine Eq.trans (b := pm_g (mm x R Z Y o A c G g) 8 i0 (pm_go call ns d 117 n 5 [some (pm_r 8 i0), some (pm_i v1)] [pm_i (A 8 i0 10), pm_r 8 i0] (mm x R Z Y o A c G g))) rfl ?_
    refine (g_ok (f := 8) q0 rfl).trans ?_
    rfl
  refine pW_eq 7 (pc' := 14) (L' := [some (pm_r 8 i0), some (pm_i v1)]) (S' := []) (M' := (mm x R Z Y o (pm_u A 8 i0 10 ((A 8 i0 10) &&& (((nI 1) <<< (v1 &&& 31)) ^^^ (-nI 1)))) c G g)) (fun call n => ?_) ?_
  · refine Eq.trans (b := pm_g (mm x R Z Y o A c G g) 8 i0 (pm_go call ns d 117 n 14 [some (pm_r 8 i0), some (pm_i v1)] [] (pm_u (mA Z A G) 8 i0 10 ((A 8 i0 10) &&& (((nI 1) <<< (v1 &&& 31)) ^^^ (-nI 1))), mB Y o c g, R, pm_tot, x))) rfl ?_
    refine (g_ok (f := 8) q0 rfl).trans ?_
    exact (congrArg (fun z => pm_go call ns d 117 n 14 [some (pm_r 8 i0), some (pm_i v1)] [] (z, mB Y o c g, R, pm_tot, x)) (uA (by decide)))
  refine pW_ret 1 (fun call n => ?_) k
  rfl
/-! 118 -/
set_option maxRecDepth 20000 in
theorem b118_0 (hR : RS R) {i0 : Nat} {v1 : Int32} (q0 : i0 < 8)  (k1 : v1 = nI 6 → pW ns d 118 6 [some (pm_r 8 i0), some (pm_i v1)] [] (mm x R Z Y o A c G g) Q) (k2 : ¬ (v1 = nI 6) → pW ns d 118 46 [some (pm_r 8 i0), some (pm_i v1)] [] (mm x R Z Y o A c G g) Q) : pW ns d 118 0 [some (pm_r 8 i0), some (pm_i v1)] [] (mm x R Z Y o A c G g) Q := by
  exact pW_if 3 (c := v1 = nI 6) (fun call n => rfl) k1 k2
set_option maxRecDepth 20000 in
theorem b118_6 (hR : RS R) {i0 : Nat} {v1 : Int32} (q0 : i0 < 8) {x2 : Nat} {o2 : Int64} {A2 : Nat → Nat → Nat → Int32} {c2 : Nat → Int64} {G2 : Nat → Nat → Int32} {g2 : Nat → Int64}  (hE : pE ns d 117 [pm_r 8 i0, pm_i (nI 4)] (mm x R Z Y o A c G g) (.inl (none), (mm x2 R Z Y o2 A2 c2 G2 g2))) (k : pW ns d 118 11 [some (pm_r 8 i0), some (pm_i v1)] [] (mm x2 R Z Y o2 A2 c2 G2 g2) Q) : pW ns d 118 6 [some (pm_r 8 i0), some (pm_i v1)] [] (mm x R Z Y o A c G g) Q := by
  refine pW_call (pc' := 8) (r := []) (L' := [some (pm_r 8 i0), some (pm_i v1)]) 3 (fun call n => ?_) hE k
  exact Eq.trans (b := pm_g (mm x R Z Y o A c G g) 8 i0 (pm_cl call 118 (pm_go call ns d 118 n) 8 117 [pm_r 8 i0, pm_i (nI 4)] [] [some (pm_r 8 i0), some (pm_i v1)] (mm x R Z Y o A c G g))) rfl (g_ok (f := 8) q0 rfl)
set_option maxRecDepth 20000 in
theorem b118_46 (hR : RS R) {i0 : Nat} {v1 : Int32} (q0 : i0 < 8)  (k1 : v1 = nI 4 → pW ns d 118 56 [some (pm_r 8 i0), some (pm_i v1)] [] (mm x R Z Y o A c G g) Q) (k2 : ¬ (v1 = nI 4) → pW ns d 118 51 [some (pm_r 8 i0), some (pm_i v1)] [] (mm x R Z Y o A c G g) Q) : pW ns d 118 46 [some (pm_r 8 i0), some (pm_i v1)] [] (mm x R Z Y o A c G g) Q := by
  exact pW_if 3 (c := v1 = nI 4) (fun call n => rfl) k1 k2
set_option maxRecDepth 20000 in
theorem b118_11 (hR : RS R) {i0 : Nat} {v1 : Int32} (q0 : i0 < 8) {x2 : Nat} {o2 : Int64} {A2 : Nat → Nat → Nat → Int32} {c2 : Nat → Int64} {G2 : Nat → Nat → Int32} {g2 : Nat → Int64}  (hE : pE ns d 117 [pm_r 8 i0, pm_i (nI 5)] (mm x R Z Y o A c G g) (.inl (none), (mm x2 R Z Y o2 A2 c2 G2 g2))) (k : pW ns d 118 16 [some (pm_r 8 i0), some (pm_i v1)] [] (mm x2 R Z Y o2 A2 c2 G2 g2) Q) : pW ns d 118 11 [some (pm_r 8 i0), some (pm_i v1)] [] (mm x R Z Y o A c G g) Q := by
  refine pW_call (pc' := 13) (r := []) (L' := [some (pm_r 8 i0), some (pm_i v1)]) 3 (fun call n => ?_) hE k
  exact Eq.trans (b := pm_g (mm x R Z Y o A c G g) 8 i0 (pm_cl call 118 (pm_go call ns d 118 n) 13 117 [pm_r 8 i0, pm_i (nI 5)] [] [some (pm_r 8 i0), some (pm_i v1)] (mm x R Z Y o A c G g))) rfl (g_ok (f := 8) q0 rfl)
set_option maxRecDepth 20000 in
theorem b118_56 (hR : RS R) {i0 : Nat} {v1 : Int32} (q0 : i0 < 8) {x2 : Nat} {o2 : Int64} {A2 : Nat → Nat → Nat → Int32} {c2 : Nat → Int64} {G2 : Nat → Nat → Int32} {g2 : Nat → Int64}  (hE : pE ns d 117 [pm_r 8 i0, pm_i (nI 6)] (mm x R Z Y o A c G g) (.inl (none), (mm x2 R Z Y o2 A2 c2 G2 g2))) (k : pW ns d 118 62 [some (pm_r 8 i0), some (pm_i v1)] [] (mm x2 R Z Y o2 A2 c2 G2 g2) Q) : pW ns d 118 56 [some (pm_r 8 i0), some (pm_i v1)] [] (mm x R Z Y o A c G g) Q := by
  refine pW_call (pc' := 59) (r := []) (L' := [some (pm_r 8 i0), some (pm_i v1)]) 3 (fun call n => ?_) hE k
  exact Eq.trans (b := pm_g (mm x R Z Y o A c G g) 8 i0 (pm_cl call 118 (pm_go call ns d 118 n) 59 117 [pm_r 8 i0, pm_i (nI 6)] [] [some (pm_r 8 i0), some (pm_i v1)] (mm x R Z Y o A c G g))) rfl (g_ok (f := 8) q0 rfl)
set_option maxRecDepth 20000 in
theorem b118_51 (hR : RS R) {i0 : Nat} {v1 : Int32} (q0 : i0 < 8)  (k1 : v1 = nI 5 → pW ns d 118 56 [some (pm_r 8 i0), some (pm_i v1)] [] (mm x R Z Y o A c G g) Q) (k2 : ¬ (v1 = nI 5) → pW ns d 118 62 [some (pm_r 8 i0), some (pm_i v1)] [] (mm x R Z Y o A c G g) Q) : pW ns d 118 51 [some (pm_r 8 i0), some (pm_i v1)] [] (mm x R Z Y o A c G g) Q := by
  exact pW_if 3 (c := v1 = nI 5) (fun call n => rfl) k1 k2
set_option maxRecDepth 20000 in
theorem b118_16 (hR : RS R) {i0 : Nat} {v1 : Int32} (q0 : i0 < 8)  (k1 : A 8 i0 6 = nI 3 → pW ns d 118 24 [some (pm_r 8 i0), some (pm_i v1)] [] (mm x R Z Y o A c G g) Q) (k2 : ¬ (A 8 i0 6 = nI 3) → pW ns d 118 62 [some (pm_r 8 i0), some (pm_i v1)] [] (mm x R Z Y o A c G g) Q) : pW ns d 118 16 [some (pm_r 8 i0), some (pm_i v1)] [] (mm x R Z Y o A c G g) Q := by
  refine pW_eq 2 (pc' := 20) (L' := [some (pm_r 8 i0), some (pm_i v1)]) (S' := [pm_i (A 8 i0 6)]) (M' := (mm x R Z Y o A c G g)) (fun call n => ?_) ?_
  · refine Eq.trans (b := pm_g (mm x R Z Y o A c G g) 8 i0 (pm_go call ns d 118 n 20 [some (pm_r 8 i0), some (pm_i v1)] [pm_i (A 8 i0 6)] (mm x R Z Y o A c G g))) rfl ?_
    refine (g_ok (f := 8) q0 rfl).trans ?_
    rfl
  exact pW_if 2 (c := A 8 i0 6 = nI 3) (fun call n => rfl) k1 k2
set_option maxRecDepth 20000 in
theorem b118_62 (hR : RS R) {i0 : Nat} {v1 : Int32} (q0 : i0 < 8)  (k1 : v1 < nI 1 → pW ns d 118 93 [some (pm_r 8 i0), some (pm_i v1)] [] (mm x R Z Y o A c G g) Q) (k2 : ¬ (v1 < nI 1) → pW ns d 118 67 [some (pm_r 8 i0), some (pm_i v1)] [] (mm x R Z Y o A c G g) Q) : pW ns d 118 62 [some (pm_r 8 i0), some (pm_i v1)] [] (mm x R Z Y o A c G g) Q := by
  exact pW_if 3 (c := v1 < nI 1) (fun call n => rfl) k1 k2
set_option maxRecDepth 20000 in
theorem b118_24 (hR : RS R) {i0 : Nat} {v1 : Int32} (q0 : i0 < 8)  (k1 : A 13 i0 0 = 0 → pW ns d 118 35 [some (pm_r 8 i0), some (pm_i v1)] [pm_r 8 i0] (mm x R Z Y o A c G g) Q) (k2 : ¬ (A 13 i0 0 = 0) → pW ns d 118 39 [some (pm_r 8 i0), some (pm_i v1)] [pm_r 8 i0] (mm x R Z Y o A c G g) Q) : pW ns d 118 24 [some (pm_r 8 i0), some (pm_i v1)] [] (mm x R Z Y o A c G g) Q := by
  refine pW_eq 3 (pc' := 29) (L' := [some (pm_r 8 i0), some (pm_i v1)]) (S' := [pm_r 13 i0, pm_r 8 i0]) (M' := (mm x R Z Y o A c G g)) (fun call n => ?_) ?_
  · refine Eq.trans (b := pm_g (mm x R Z Y o A c G g) 8 i0 (pm_go call ns d 118 n 29 [some (pm_r 8 i0), some (pm_i v1)] [pm_a (R 8 i0 5), pm_r 8 i0] (mm x R Z Y o A c G g))) rfl ?_
    refine (g_ok (f := 8) q0 rfl).trans ?_
    exact (congrArg (fun z => pm_go call ns d 118 n 29 [some (pm_r 8 i0), some (pm_i v1)] [pm_a z, pm_r 8 i0] (mm x R Z Y o A c G g)) (rs_8_5 hR q0))
  refine pW_eq 1 (pc' := 32) (L' := [some (pm_r 8 i0), some (pm_i v1)]) (S' := [pm_i (A 13 i0 0), pm_r 8 i0]) (M' := (mm x R Z Y o A c G g)) (fun call n => ?_) ?_
  · refine Eq.trans (b := pm_g (mm x R Z Y o A c G g) 13 i0 (pm_go call ns d 118 n 32 [some (pm_r 8 i0), some (pm_i v1)] [pm_i (A 13 i0 0), pm_r 8 i0] (mm x R Z Y o A c G g))) rfl ?_
    refine (g_ok (f := 13) q0 rfl).trans ?_
    rfl
  exact pW_if 1 (c := A 13 i0 0 = 0) (fun call n => rfl) k1 k2
set_option maxRecDepth 20000 in
theorem b118_93 (hR : RS R) {u0 : Option pm_V} {u1 : Option pm_V}   (k : Q (.inl none, (mm x R Z Y o A c G g))) : pW ns d 118 93 [u0, u1] [] (mm x R Z Y o A c G g) Q := by
  refine pW_ret 1 (fun call n => ?_) k
  rfl
set_option maxRecDepth 20000 in
theorem b118_67 (hR : RS R) {i0 : Nat} {v1 : Int32} (q0 : i0 < 8)  (k1 : nI 7 < v1 → pW ns d 118 93 [some (pm_r 8 i0), some (pm_i v1)] [] (mm x R Z Y o A c G g) Q) (k2 : ¬ (nI 7 < v1) → pW ns d 118 73 [some (pm_r 8 i0), some (pm_i v1)] [] (mm x R Z Y o A c G g) Q) : pW ns d 118 67 [some (pm_r 8 i0), some (pm_i v1)] [] (mm x R Z Y o A c G g) Q := by
  exact pW_if 3 (c := nI 7 < v1) (fun call n => rfl) k1 k2
set_option maxRecDepth 20000 in
theorem b118_35 (hR : RS R) {i0 : Nat} {v1 : Int32} {is0 : Nat} (q0 : i0 < 8) (qs0 : is0 < 8)  (k1 : v1 < nI 1 → pW ns d 118 93 [some (pm_r 8 i0), some (pm_i v1)] [] (mm x R Z Y o (pm_u A 8 is0 6 (nI 1)) c G g) Q) (k2 : ¬ (v1 < nI 1) → pW ns d 118 67 [some (pm_r 8 i0), some (pm_i v1)] [] (mm x R Z Y o (pm_u A 8 is0 6 (nI 1)) c G g) Q) : pW ns d 118 35 [some (pm_r 8 i0), some (pm_i v1)] [pm_r 8 is0] (mm x R Z Y o A c G g) Q := by
  refine pW_eq 3 (pc' := 43) (L' := [some (pm_r 8 i0), some (pm_i v1)]) (S' := []) (M' := (mm x R Z Y o (pm_u A 8 is0 6 (nI 1)) c G g)) (fun call n => ?_) ?_
  · refine Eq.trans (b := pm_g (mm x R Z Y o A c G g) 8 is0 (pm_go call ns d 118 n 43 [some (pm_r 8 i0), some (pm_i v1)] [] (pm_u (mA Z A G) 8 is0 6 (nI 1), mB Y o c g, R, pm_tot, x))) rfl ?_
    refine (g_ok (f := 8) qs0 rfl).trans ?_
    exact (congrArg (fun z => pm_go call ns d 118 n 43 [some (pm_r 8 i0), some (pm_i v1)] [] (z, mB Y o c g, R, pm_tot, x)) (uA (by decide)))
  exact pW_if 4 (c := v1 < nI 1) (fun call n => rfl) k1 k2
set_option maxRecDepth 20000 in
theorem b118_39 (hR : RS R) {i0 : Nat} {v1 : Int32} {is0 : Nat} (q0 : i0 < 8) (qs0 : is0 < 8)  (k1 : v1 < nI 1 → pW ns d 118 93 [some (pm_r 8 i0), some (pm_i v1)] [] (mm x R Z Y o (pm_u A 8 is0 6 (nI 2)) c G g) Q) (k2 : ¬ (v1 < nI 1) → pW ns d 118 67 [some (pm_r 8 i0), some (pm_i v1)] [] (mm x R Z Y o (pm_u A 8 is0 6 (nI 2)) c G g) Q) : pW ns d 118 39 [some (pm_r 8 i0), some (pm_i v1)] [pm_r 8 is0] (mm x R Z Y o A c G g) Q := by
  refine pW_eq 2 (pc' := 43) (L' := [some (pm_r 8 i0), some (pm_i v1)]) (S' := []) (M' := (mm x R Z Y o (pm_u A 8 is0 6 (nI 2)) c G g)) (fun call n => ?_) ?_
  · refine Eq.trans (b := pm_g (mm x R Z Y o A c G g) 8 is0 (pm_go call ns d 118 n 43 [some (pm_r 8 i0), some (pm_i v1)] [] (pm_u (mA Z A G) 8 is0 6 (nI 2), mB Y o c g, R, pm_tot, x))) rfl ?_
    refine (g_ok (f := 8) qs0 rfl).trans ?_
    exact (congrArg (fun z => pm_go call ns d 118 n 43 [some (pm_r 8 i0), some (pm_i v1)] [] (z, mB Y o c g, R, pm_tot, x)) (uA (by decide)))
  exact pW_if 4 (c := v1 < nI 1) (fun call n => rfl) k1 k2
set_option maxRecDepth 20000 in
theorem b118_73 (hR : RS R) {i0 : Nat} {v1 : Int32} (q0 : i0 < 8) {x2 : Nat} {o2 : Int64} {A2 : Nat → Nat → Nat → Int32} {c2 : Nat → Int64} {G2 : Nat → Nat → Int32} {g2 : Nat → Int64} {y : Int32} (hE : pE ns d 119 [pm_r 8 i0, pm_i v1] (mm x R Z Y o A c G g) (.inl (some (pm_i y)), (mm x2 R Z Y o2 A2 c2 G2 g2))) (k : pW ns d 118 78 [some (pm_r 8 i0), some (pm_i v1)] [pm_i y] (mm x2 R Z Y o2 A2 c2 G2 g2) Q) : pW ns d 118 73 [some (pm_r 8 i0), some (pm_i v1)] [] (mm x R Z Y o A c G g) Q := by
  refine pW_call (pc' := 75) (r := []) (L' := [some (pm_r 8 i0), some (pm_i v1)]) 3 (fun call n => ?_) hE k
  exact Eq.trans (b := pm_g (mm x R Z Y o A c G g) 8 i0 (pm_cl call 118 (pm_go call ns d 118 n) 75 119 [pm_r 8 i0, pm_i v1] [] [some (pm_r 8 i0), some (pm_i v1)] (mm x R Z Y o A c G g))) rfl (g_ok (f := 8) q0 rfl)
set_option maxRecDepth 20000 in
theorem b118_78 (hR : RS R) {i0 : Nat} {v1 : Int32} {vs0 : Int32} (q0 : i0 < 8)  (k1 : vs0 = 0 → pW ns d 118 93 [some (pm_r 8 i0), some (pm_i v1)] [] (mm x R Z Y o A c G g) Q) (k2 : ¬ (vs0 = 0) → pW ns d 118 81 [some (pm_r 8 i0), some (pm_i v1)] [] (mm x R Z Y o A c G g) Q) : pW ns d 118 78 [some (pm_r 8 i0), some (pm_i v1)] [pm_i vs0] (mm x R Z Y o A c G g) Q := by
  exact pW_if 1 (c := vs0 = 0) (fun call n => rfl) k1 k2
set_option maxRecDepth 20000 in
theorem b118_81 (hR : RS R) {i0 : Nat} {v1 : Int32} (q0 : i0 < 8)  (k : Q (.inl none, (mm x R Z Y o (pm_u A 8 i0 10 ((A 8 i0 10) ||| ((nI 1) <<< (v1 &&& 31)))) c G g))) : pW ns d 118 81 [some (pm_r 8 i0), some (pm_i v1)] [] (mm x R Z Y o A c G g) Q := by
  refine pW_eq 3 (pc' := 86) (L' := [some (pm_r 8 i0), some (pm_i v1)]) (S' := [pm_i (A 8 i0 10), pm_r 8 i0]) (M' := (mm x R Z Y o A c G g)) (fun call n => ?_) ?_
  · refine Eq.trans (b := pm_g (mm x R Z Y o A c G g) 8 i0 (pm_go call ns d 118 n 86 [some (pm_r 8 i0), some (pm_i v1)] [pm_i (A 8 i0 10), pm_r 8 i0] (mm x R Z Y o A c G g))) rfl ?_
    refine (g_ok (f := 8) q0 rfl).trans ?_
    rfl
  refine pW_eq 5 (pc' := 93) (L' := [some (pm_r 8 i0), some (pm_i v1)]) (S' := []) (M' := (mm x R Z Y o (pm_u A 8 i0 10 ((A 8 i0 10) ||| ((nI 1) <<< (v1 &&& 31)))) c G g)) (fun call n => ?_) ?_
  · refine Eq.trans (b := pm_g (mm x R Z Y o A c G g) 8 i0 (pm_go call ns d 118 n 93 [some (pm_r 8 i0), some (pm_i v1)] [] (pm_u (mA Z A G) 8 i0 10 ((A 8 i0 10) ||| ((nI 1) <<< (v1 &&& 31))), mB Y o c g, R, pm_tot, x))) rfl ?_
    refine (g_ok (f := 8) q0 rfl).trans ?_
    exact (congrArg (fun z => pm_go call ns d 118 n 93 [some (pm_r 8 i0), some (pm_i v1)] [] (z, mB Y o c g, R, pm_tot, x)) (uA (by decide)))
  refine pW_ret 1 (fun call n => ?_) k
  rfl
set_option maxRecDepth 20000 in
theorem t118_0 (hR : RS R) {i0 : Nat} {v1 : Int32} (q0 : i0 < 8) (k1 : (v1 = nI 6) → pW ns d 118 6 [some (pm_r 8 i0), some (pm_i v1)] [] (mm x R Z Y o A c G g) Q) (k2 : (¬ (v1 = nI 6)) → (v1 = nI 4) → pW ns d 118 56 [some (pm_r 8 i0), some (pm_i v1)] [] (mm x R Z Y o A c G g) Q) (k3 : (¬ (v1 = nI 6)) → (¬ (v1 = nI 4)) → (v1 = nI 5) → pW ns d 118 56 [some (pm_r 8 i0), some (pm_i v1)] [] (mm x R Z Y o A c G g) Q) (k4 : (¬ (v1 = nI 6)) → (¬ (v1 = nI 4)) → (¬ (v1 = nI 5)) → (v1 < nI 1) → Q (.inl none, (mm x R Z Y o A c G g))) (k5 : (¬ (v1 = nI 6)) → (¬ (v1 = nI 4)) → (¬ (v1 = nI 5)) → (¬ (v1 < nI 1)) → (nI 7 < v1) → Q (.inl none, (mm x R Z Y o A c G g))) (k6 : (¬ (v1 = nI 6)) → (¬ (v1 = nI 4)) → (¬ (v1 = nI 5)) → (¬ (v1 < nI 1)) → (¬ (nI 7 < v1)) → pW ns d 118 73 [some (pm_r 8 i0), some (pm_i v1)] [] (mm x R Z Y o A c G g) Q) : pW ns d 118 0 [some (pm_r 8 i0), some (pm_i v1)] [] (mm x R Z Y o A c G g) Q := by
  refine b118_0 hR q0 (fun h1 => ?_) (fun h1 => ?_)
  · skip
    exact (k1 h1)
  · skip
    refine b118_46 hR q0  (fun h2 => ?_) (fun h2 => ?_)
    · skip
      exact (k2 h1 h2)
    · skip
      refine b118_51 hR q0  (fun h3 => ?_) (fun h3 => ?_)
      · skip
        exact (k3 h1 h2 h3)
      · skip
        refine b118_62 hR q0  (fun h4 => ?_) (fun h4 => ?_)
        · skip
          exact b118_93 hR   (k4 h1 h2 h3 h4)
        · skip
          refine b118_67 hR q0  (fun h5 => ?_) (fun h5 => ?_)
          · skip
            exact b118_93 hR   (k5 h1 h2 h3 h4 h5)
          · skip
            exact (k6 h1 h2 h3 h4 h5)
set_option maxRecDepth 20000 in
theorem t118_46 (hR : RS R) {i0 : Nat} {v1 : Int32} (q0 : i0 < 8) (k1 : (v1 = nI 4) → pW ns d 118 56 [some (pm_r 8 i0), some (pm_i v1)] [] (mm x R Z Y o A c G g) Q) (k2 : (¬ (v1 = nI 4)) → (v1 = nI 5) → pW ns d 118 56 [some (pm_r 8 i0), some (pm_i v1)] [] (mm x R Z Y o A c G g) Q) (k3 : (¬ (v1 = nI 4)) → (¬ (v1 = nI 5)) → (v1 < nI 1) → Q (.inl none, (mm x R Z Y o A c G g))) (k4 : (¬ (v1 = nI 4)) → (¬ (v1 = nI 5)) → (¬ (v1 < nI 1)) → (nI 7 < v1) → Q (.inl none, (mm x R Z Y o A c G g))) (k5 : (¬ (v1 = nI 4)) → (¬ (v1 = nI 5)) → (¬ (v1 < nI 1)) → (¬ (nI 7 < v1)) → pW ns d 118 73 [some (pm_r 8 i0), some (pm_i v1)] [] (mm x R Z Y o A c G g) Q) : pW ns d 118 46 [some (pm_r 8 i0), some (pm_i v1)] [] (mm x R Z Y o A c G g) Q := by
  refine b118_46 hR q0 (fun h1 => ?_) (fun h1 => ?_)
  · skip
    exact (k1 h1)
  · skip
    refine b118_51 hR q0  (fun h2 => ?_) (fun h2 => ?_)
    · skip
      exact (k2 h1 h2)
    · skip
      refine b118_62 hR q0  (fun h3 => ?_) (fun h3 => ?_)
      · skip
        exact b118_93 hR   (k3 h1 h2 h3)
      · skip
        refine b118_67 hR q0  (fun h4 => ?_) (fun h4 => ?_)
        · skip
          exact b118_93 hR   (k4 h1 h2 h3 h4)
        · skip
          exact (k5 h1 h2 h3 h4)
set_option maxRecDepth 20000 in
theorem t118_51 (hR : RS R) {i0 : Nat} {v1 : Int32} (q0 : i0 < 8) (k1 : (v1 = nI 5) → pW ns d 118 56 [some (pm_r 8 i0), some (pm_i v1)] [] (mm x R Z Y o A c G g) Q) (k2 : (¬ (v1 = nI 5)) → (v1 < nI 1) → Q (.inl none, (mm x R Z Y o A c G g))) (k3 : (¬ (v1 = nI 5)) → (¬ (v1 < nI 1)) → (nI 7 < v1) → Q (.inl none, (mm x R Z Y o A c G g))) (k4 : (¬ (v1 = nI 5)) → (¬ (v1 < nI 1)) → (¬ (nI 7 < v1)) → pW ns d 118 73 [some (pm_r 8 i0), some (pm_i v1)] [] (mm x R Z Y o A c G g) Q) : pW ns d 118 51 [some (pm_r 8 i0), some (pm_i v1)] [] (mm x R Z Y o A c G g) Q := by
  refine b118_51 hR q0 (fun h1 => ?_) (fun h1 => ?_)
  · skip
    exact (k1 h1)
  · skip
    refine b118_62 hR q0  (fun h2 => ?_) (fun h2 => ?_)
    · skip
      exact b118_93 hR   (k2 h1 h2)
    · skip
      refine b118_67 hR q0  (fun h3 => ?_) (fun h3 => ?_)
      · skip
        exact b118_93 hR   (k3 h1 h2 h3)
      · skip
        exact (k4 h1 h2 h3)
set_option maxRecDepth 20000 in
theorem t118_16 (hR : RS R) {i0 : Nat} {v1 : Int32} (q0 : i0 < 8) (k1 : (A 8 i0 6 = nI 3) → (A 13 i0 0 = 0) → (v1 < nI 1) → Q (.inl none, (mm x R Z Y o (pm_u A 8 i0 6 (nI 1)) c G g))) (k2 : (A 8 i0 6 = nI 3) → (A 13 i0 0 = 0) → (¬ (v1 < nI 1)) → (nI 7 < v1) → Q (.inl none, (mm x R Z Y o (pm_u A 8 i0 6 (nI 1)) c G g))) (k3 : (A 8 i0 6 = nI 3) → (A 13 i0 0 = 0) → (¬ (v1 < nI 1)) → (¬ (nI 7 < v1)) → pW ns d 118 73 [some (pm_r 8 i0), some (pm_i v1)] [] (mm x R Z Y o (pm_u A 8 i0 6 (nI 1)) c G g) Q) (k4 : (A 8 i0 6 = nI 3) → (¬ (A 13 i0 0 = 0)) → (v1 < nI 1) → Q (.inl none, (mm x R Z Y o (pm_u A 8 i0 6 (nI 2)) c G g))) (k5 : (A 8 i0 6 = nI 3) → (¬ (A 13 i0 0 = 0)) → (¬ (v1 < nI 1)) → (nI 7 < v1) → Q (.inl none, (mm x R Z Y o (pm_u A 8 i0 6 (nI 2)) c G g))) (k6 : (A 8 i0 6 = nI 3) → (¬ (A 13 i0 0 = 0)) → (¬ (v1 < nI 1)) → (¬ (nI 7 < v1)) → pW ns d 118 73 [some (pm_r 8 i0), some (pm_i v1)] [] (mm x R Z Y o (pm_u A 8 i0 6 (nI 2)) c G g) Q) (k7 : (¬ (A 8 i0 6 = nI 3)) → (v1 < nI 1) → Q (.inl none, (mm x R Z Y o A c G g))) (k8 : (¬ (A 8 i0 6 = nI 3)) → (¬ (v1 < nI 1)) → (nI 7 < v1) → Q (.inl none, (mm x R Z Y o A c G g))) (k9 : (¬ (A 8 i0 6 = nI 3)) → (¬ (v1 < nI 1)) → (¬ (nI 7 < v1)) → pW ns d 118 73 [some (pm_r 8 i0), some (pm_i v1)] [] (mm x R Z Y o A c G g) Q) : pW ns d 118 16 [some (pm_r 8 i0), some (pm_i v1)] [] (mm x R Z Y o A c G g) Q := by
  refine b118_16 hR q0 (fun h1 => ?_) (fun h1 => ?_)
  · skip
    refine b118_24 hR q0  (fun h2 => ?_) (fun h2 => ?_)
    · skip
      refine b118_35 hR q0 q0  (fun h3 => ?_) (fun h3 => ?_)
      · skip
        exact b118_93 hR   (k1 h1 h2 h3)
      · skip
        refine b118_67 hR q0  (fun h4 => ?_) (fun h4 => ?_)
        · skip
          exact b118_93 hR   (k2 h1 h2 h3 h4)
        · skip
          exact (k3 h1 h2 h3 h4)
    · skip
      refine b118_39 hR q0 q0  (fun h3 => ?_) (fun h3 => ?_)
      · skip
        exact b118_93 hR   (k4 h1 h2 h3)
      · skip
        refine b118_67 hR q0  (fun h4 => ?_) (fun h4 => ?_)
        · skip
          exact b118_93 hR   (k5 h1 h2 h3 h4)
        · skip
          exact (k6 h1 h2 h3 h4)
  · skip
    refine b118_62 hR q0  (fun h2 => ?_) (fun h2 => ?_)
    · skip
      exact b118_93 hR   (k7 h1 h2)
    · skip
      refine b118_67 hR q0  (fun h3 => ?_) (fun h3 => ?_)
      · skip
        exact b118_93 hR   (k8 h1 h2 h3)
      · skip
        exact (k9 h1 h2 h3)
set_option maxRecDepth 20000 in
theorem t118_62 (hR : RS R) {i0 : Nat} {v1 : Int32} (q0 : i0 < 8) (k1 : (v1 < nI 1) → Q (.inl none, (mm x R Z Y o A c G g))) (k2 : (¬ (v1 < nI 1)) → (nI 7 < v1) → Q (.inl none, (mm x R Z Y o A c G g))) (k3 : (¬ (v1 < nI 1)) → (¬ (nI 7 < v1)) → pW ns d 118 73 [some (pm_r 8 i0), some (pm_i v1)] [] (mm x R Z Y o A c G g) Q) : pW ns d 118 62 [some (pm_r 8 i0), some (pm_i v1)] [] (mm x R Z Y o A c G g) Q := by
  refine b118_62 hR q0 (fun h1 => ?_) (fun h1 => ?_)
  · skip
    exact b118_93 hR   (k1 h1)
  · skip
    refine b118_67 hR q0  (fun h2 => ?_) (fun h2 => ?_)
    · skip
      exact b118_93 hR   (k2 h1 h2)
    · skip
      exact (k3 h1 h2)
set_option maxRecDepth 20000 in
theorem t118_24 (hR : RS R) {i0 : Nat} {v1 : Int32} (q0 : i0 < 8) (k1 : (A 13 i0 0 = 0) → (v1 < nI 1) → Q (.inl none, (mm x R Z Y o (pm_u A 8 i0 6 (nI 1)) c G g))) (k2 : (A 13 i0 0 = 0) → (¬ (v1 < nI 1)) → (nI 7 < v1) → Q (.inl none, (mm x R Z Y o (pm_u A 8 i0 6 (nI 1)) c G g))) (k3 : (A 13 i0 0 = 0) → (¬ (v1 < nI 1)) → (¬ (nI 7 < v1)) → pW ns d 118 73 [some (pm_r 8 i0), some (pm_i v1)] [] (mm x R Z Y o (pm_u A 8 i0 6 (nI 1)) c G g) Q) (k4 : (¬ (A 13 i0 0 = 0)) → (v1 < nI 1) → Q (.inl none, (mm x R Z Y o (pm_u A 8 i0 6 (nI 2)) c G g))) (k5 : (¬ (A 13 i0 0 = 0)) → (¬ (v1 < nI 1)) → (nI 7 < v1) → Q (.inl none, (mm x R Z Y o (pm_u A 8 i0 6 (nI 2)) c G g))) (k6 : (¬ (A 13 i0 0 = 0)) → (¬ (v1 < nI 1)) → (¬ (nI 7 < v1)) → pW ns d 118 73 [some (pm_r 8 i0), some (pm_i v1)] [] (mm x R Z Y o (pm_u A 8 i0 6 (nI 2)) c G g) Q) : pW ns d 118 24 [some (pm_r 8 i0), some (pm_i v1)] [] (mm x R Z Y o A c G g) Q := by
  refine b118_24 hR q0 (fun h1 => ?_) (fun h1 => ?_)
  · skip
    refine b118_35 hR q0 q0  (fun h2 => ?_) (fun h2 => ?_)
    · skip
      exact b118_93 hR   (k1 h1 h2)
    · skip
      refine b118_67 hR q0  (fun h3 => ?_) (fun h3 => ?_)
      · skip
        exact b118_93 hR   (k2 h1 h2 h3)
      · skip
        exact (k3 h1 h2 h3)
  · skip
    refine b118_39 hR q0 q0  (fun h2 => ?_) (fun h2 => ?_)
    · skip
      exact b118_93 hR   (k4 h1 h2)
    · skip
      refine b118_67 hR q0  (fun h3 => ?_) (fun h3 => ?_)
      · skip
        exact b118_93 hR   (k5 h1 h2 h3)
      · skip
        exact (k6 h1 h2 h3)
set_option maxRecDepth 20000 in
theorem t118_67 (hR : RS R) {i0 : Nat} {v1 : Int32} (q0 : i0 < 8) (k1 : (nI 7 < v1) → Q (.inl none, (mm x R Z Y o A c G g))) (k2 : (¬ (nI 7 < v1)) → pW ns d 118 73 [some (pm_r 8 i0), some (pm_i v1)] [] (mm x R Z Y o A c G g) Q) : pW ns d 118 67 [some (pm_r 8 i0), some (pm_i v1)] [] (mm x R Z Y o A c G g) Q := by
  refine b118_67 hR q0 (fun h1 => ?_) (fun h1 => ?_)
  · skip
    exact b118_93 hR   (k1 h1)
  · skip
    exact (k2 h1)
set_option maxRecDepth 20000 in
theorem t118_35 (hR : RS R) {i0 : Nat} {v1 : Int32} {is0 : Nat} (q0 : i0 < 8) (qs0 : is0 < 8) (k1 : (v1 < nI 1) → Q (.inl none, (mm x R Z Y o (pm_u A 8 is0 6 (nI 1)) c G g))) (k2 : (¬ (v1 < nI 1)) → (nI 7 < v1) → Q (.inl none, (mm x R Z Y o (pm_u A 8 is0 6 (nI 1)) c G g))) (k3 : (¬ (v1 < nI 1)) → (¬ (nI 7 < v1)) → pW ns d 118 73 [some (pm_r 8 i0), some (pm_i v1)] [] (mm x R Z Y o (pm_u A 8 is0 6 (nI 1)) c G g) Q) : pW ns d 118 35 [some (pm_r 8 i0), some (pm_i v1)] [pm_r 8 is0] (mm x R Z Y o A c G g) Q := by
  refine b118_35 hR q0 qs0 (fun h1 => ?_) (fun h1 => ?_)
  · skip
    exact b118_93 hR   (k1 h1)
  · skip
    refine b118_67 hR q0  (fun h2 => ?_) (fun h2 => ?_)
    · skip
      exact b118_93 hR   (k2 h1 h2)
    · skip
      exact (k3 h1 h2)
set_option maxRecDepth 20000 in
theorem t118_39 (hR : RS R) {i0 : Nat} {v1 : Int32} {is0 : Nat} (q0 : i0 < 8) (qs0 : is0 < 8) (k1 : (v1 < nI 1) → Q (.inl none, (mm x R Z Y o (pm_u A 8 is0 6 (nI 2)) c G g))) (k2 : (¬ (v1 < nI 1)) → (nI 7 < v1) → Q (.inl none, (mm x R Z Y o (pm_u A 8 is0 6 (nI 2)) c G g))) (k3 : (¬ (v1 < nI 1)) → (¬ (nI 7 < v1)) → pW ns d 118 73 [some (pm_r 8 i0), some (pm_i v1)] [] (mm x R Z Y o (pm_u A 8 is0 6 (nI 2)) c G g) Q) : pW ns d 118 39 [some (pm_r 8 i0), some (pm_i v1)] [pm_r 8 is0] (mm x R Z Y o A c G g) Q := by
  refine b118_39 hR q0 qs0 (fun h1 => ?_) (fun h1 => ?_)
  · skip
    exact b118_93 hR   (k1 h1)
  · skip
    refine b118_67 hR q0  (fun h2 => ?_) (fun h2 => ?_)
    · skip
      exact b118_93 hR   (k2 h1 h2)
    · skip
      exact (k3 h1 h2)
set_option maxRecDepth 20000 in
theorem t118_78 (hR : RS R) {i0 : Nat} {v1 : Int32} {vs0 : Int32} (q0 : i0 < 8) (k1 : (vs0 = 0) → Q (.inl none, (mm x R Z Y o A c G g))) (k2 : (¬ (vs0 = 0)) → Q (.inl none, (mm x R Z Y o (pm_u A 8 i0 10 ((A 8 i0 10) ||| ((nI 1) <<< (v1 &&& 31)))) c G g))) : pW ns d 118 78 [some (pm_r 8 i0), some (pm_i v1)] [pm_i vs0] (mm x R Z Y o A c G g) Q := by
  refine b118_78 hR q0 (fun h1 => ?_) (fun h1 => ?_)
  · skip
    exact b118_93 hR   (k1 h1)
  · skip
    exact b118_81 hR q0  (k2 h1)
/-! 119 JobLayer$Task.staysPending -/
set_option maxRecDepth 20000 in
theorem b119_0 (hR : RS R) {i0 : Nat} {v1 : Int32} {j1 : Nat} (q0 : i0 < 8) (e1 : v1 = nI j1) (l1 : j1 < 8)  (k1 : A 10 i0 j1 = nI 2 → pW ns d 119 24 [some (pm_r 8 i0), some (pm_i v1)] [] (mm x R Z Y o A c G g) Q) (k2 : ¬ (A 10 i0 j1 = nI 2) → pW ns d 119 10 [some (pm_r 8 i0), some (pm_i v1)] [] (mm x R Z Y o A c G g) Q) : pW ns d 119 0 [some (pm_r 8 i0), some (pm_i v1)] [] (mm x R Z Y o A c G g) Q := by
  refine pW_eq 2 (pc' := 4) (L' := [some (pm_r 8 i0), some (pm_i v1)]) (S' := [pm_r 10 i0]) (M' := (mm x R Z Y o A c G g)) (fun call n => ?_) ?_
  · refine Eq.trans (b := pm_g (mm x R Z Y o A c G g) 8 i0 (pm_go call ns d 119 n 4 [some (pm_r 8 i0), some (pm_i v1)] [pm_a (R 8 i0 2)] (mm x R Z Y o A c G g))) rfl ?_
    refine (g_ok (f := 8) q0 rfl).trans ?_
    exact (congrArg (fun z => pm_go call ns d 119 n 4 [some (pm_r 8 i0), some (pm_i v1)] [pm_a z] (mm x R Z Y o A c G g)) (rs_8_2 hR q0))
  refine pW_eq 2 (pc' := 6) (L' := [some (pm_r 8 i0), some (pm_i v1)]) (S' := [pm_i (A 10 i0 j1)]) (M' := (mm x R Z Y o A c G g)) (fun call n => ?_) ?_
  · refine Eq.trans (b := pm_g (mm x R Z Y o A c G g) 10 i0 (pm_ix (v1) 8 (fun jx => pm_go call ns d 119 n 6 [some (pm_r 8 i0), some (pm_i v1)] [pm_i (A 10 i0 jx)] (mm x R Z Y o A c G g)))) rfl ?_
    refine (g_ok (f := 10) q0 rfl).trans ?_
    refine (ix_ok (j := j1) e1 l1 (by decide)).trans ?_
    rfl
  exact pW_if 2 (c := A 10 i0 j1 = nI 2) (fun call n => rfl) k1 k2
set_option maxRecDepth 20000 in
theorem b119_24 (hR : RS R) {u0 : Option pm_V} {u1 : Option pm_V}   (k : Q (.inl (some (pm_i (nI 1))), (mm x R Z Y o A c G g))) : pW ns d 119 24 [u0, u1] [] (mm x R Z Y o A c G g) Q := by
  refine pW_ret 3 (fun call n => ?_) k
  exact Eq.trans (b := pm_bo (nI 1) (some (.inl (some (pm_i (nI 1))), (mm x R Z Y o A c G g)))) rfl (bo_ok (by decide))
set_option maxRecDepth 20000 in
theorem b119_10 (hR : RS R) {i0 : Nat} {v1 : Int32} {j1 : Nat} (q0 : i0 < 8) (e1 : v1 = nI j1) (l1 : j1 < 8)  (k1 : A 10 i0 j1 = 0 → pW ns d 119 19 [some (pm_r 8 i0), some (pm_i v1)] [] (mm x R Z Y o A c G g) Q) (k2 : ¬ (A 10 i0 j1 = 0) → pW ns d 119 28 [some (pm_r 8 i0), some (pm_i v1)] [] (mm x R Z Y o A c G g) Q) : pW ns d 119 10 [some (pm_r 8 i0), some (pm_i v1)] [] (mm x R Z Y o A c G g) Q := by
  refine pW_eq 2 (pc' := 14) (L' := [some (pm_r 8 i0), some (pm_i v1)]) (S' := [pm_r 10 i0]) (M' := (mm x R Z Y o A c G g)) (fun call n => ?_) ?_
  · refine Eq.trans (b := pm_g (mm x R Z Y o A c G g) 8 i0 (pm_go call ns d 119 n 14 [some (pm_r 8 i0), some (pm_i v1)] [pm_a (R 8 i0 2)] (mm x R Z Y o A c G g))) rfl ?_
    refine (g_ok (f := 8) q0 rfl).trans ?_
    exact (congrArg (fun z => pm_go call ns d 119 n 14 [some (pm_r 8 i0), some (pm_i v1)] [pm_a z] (mm x R Z Y o A c G g)) (rs_8_2 hR q0))
  refine pW_eq 2 (pc' := 16) (L' := [some (pm_r 8 i0), some (pm_i v1)]) (S' := [pm_i (A 10 i0 j1)]) (M' := (mm x R Z Y o A c G g)) (fun call n => ?_) ?_
  · refine Eq.trans (b := pm_g (mm x R Z Y o A c G g) 10 i0 (pm_ix (v1) 8 (fun jx => pm_go call ns d 119 n 16 [some (pm_r 8 i0), some (pm_i v1)] [pm_i (A 10 i0 jx)] (mm x R Z Y o A c G g)))) rfl ?_
    refine (g_ok (f := 10) q0 rfl).trans ?_
    refine (ix_ok (j := j1) e1 l1 (by decide)).trans ?_
    rfl
  exact pW_if 1 (c := A 10 i0 j1 = 0) (fun call n => rfl) k1 k2
set_option maxRecDepth 20000 in
theorem b119_19 (hR : RS R) {u0 : Option pm_V} {v1 : Int32}   (k1 : nI 5 < v1 → pW ns d 119 28 [u0, some (pm_i v1)] [] (mm x R Z Y o A c G g) Q) (k2 : ¬ (nI 5 < v1) → pW ns d 119 24 [u0, some (pm_i v1)] [] (mm x R Z Y o A c G g) Q) : pW ns d 119 19 [u0, some (pm_i v1)] [] (mm x R Z Y o A c G g) Q := by
  exact pW_if 3 (c := nI 5 < v1) (fun call n => rfl) k1 k2
set_option maxRecDepth 20000 in
theorem b119_28 (hR : RS R) {u0 : Option pm_V} {u1 : Option pm_V}   (k : Q (.inl (some (pm_i (nI 0))), (mm x R Z Y o A c G g))) : pW ns d 119 28 [u0, u1] [] (mm x R Z Y o A c G g) Q := by
  refine pW_ret 2 (fun call n => ?_) k
  exact Eq.trans (b := pm_bo (nI 0) (some (.inl (some (pm_i (nI 0))), (mm x R Z Y o A c G g)))) rfl (bo_ok (by decide))
set_option maxRecDepth 20000 in
theorem t119_0 (hR : RS R) {i0 : Nat} {v1 : Int32} {j1 : Nat} (q0 : i0 < 8) (e1 : v1 = nI j1) (l1 : j1 < 8) (k1 : (A 10 i0 j1 = nI 2) → Q (.inl (some (pm_i (nI 1))), (mm x R Z Y o A c G g))) (k2 : (¬ (A 10 i0 j1 = nI 2)) → (A 10 i0 j1 = 0) → (nI 5 < v1) → Q (.inl (some (pm_i (nI 0))), (mm x R Z Y o A c G g))) (k3 : (¬ (A 10 i0 j1 = nI 2)) → (A 10 i0 j1 = 0) → (¬ (nI 5 < v1)) → Q (.inl (some (pm_i (nI 1))), (mm x R Z Y o A c G g))) (k4 : (¬ (A 10 i0 j1 = nI 2)) → (¬ (A 10 i0 j1 = 0)) → Q (.inl (some (pm_i (nI 0))), (mm x R Z Y o A c G g))) : pW ns d 119 0 [some (pm_r 8 i0), some (pm_i v1)] [] (mm x R Z Y o A c G g) Q := by
  refine b119_0 hR q0 e1 l1 (fun h1 => ?_) (fun h1 => ?_)
  · skip
    exact b119_24 hR   (k1 h1)
  · skip
    refine b119_10 hR q0 e1 l1 (fun h2 => ?_) (fun h2 => ?_)
    · skip
      refine b119_19 hR   (fun h3 => ?_) (fun h3 => ?_)
      · skip
        exact b119_28 hR   (k2 h1 h2 h3)
      · skip
        exact b119_24 hR   (k3 h1 h2 h3)
    · skip
      exact b119_28 hR   (k4 h1 h2)
set_option maxRecDepth 20000 in
theorem t119_10 (hR : RS R) {i0 : Nat} {v1 : Int32} {j1 : Nat} (q0 : i0 < 8) (e1 : v1 = nI j1) (l1 : j1 < 8) (k1 : (A 10 i0 j1 = 0) → (nI 5 < v1) → Q (.inl (some (pm_i (nI 0))), (mm x R Z Y o A c G g))) (k2 : (A 10 i0 j1 = 0) → (¬ (nI 5 < v1)) → Q (.inl (some (pm_i (nI 1))), (mm x R Z Y o A c G g))) (k3 : (¬ (A 10 i0 j1 = 0)) → Q (.inl (some (pm_i (nI 0))), (mm x R Z Y o A c G g))) : pW ns d 119 10 [some (pm_r 8 i0), some (pm_i v1)] [] (mm x R Z Y o A c G g) Q := by
  refine b119_10 hR q0 e1 l1 (fun h1 => ?_) (fun h1 => ?_)
  · skip
    refine b119_19 hR   (fun h2 => ?_) (fun h2 => ?_)
    · skip
      exact b119_28 hR   (k1 h1 h2)
    · skip
      exact b119_24 hR   (k2 h1 h2)
  · skip
    exact b119_28 hR   (k3 h1)
set_option maxRecDepth 20000 in
theorem t119_19 (hR : RS R) {u0 : Option pm_V} {v1 : Int32}  (k1 : (nI 5 < v1) → Q (.inl (some (pm_i (nI 0))), (mm x R Z Y o A c G g))) (k2 : (¬ (nI 5 < v1)) → Q (.inl (some (pm_i (nI 1))), (mm x R Z Y o A c G g))) : pW ns d 119 19 [u0, some (pm_i v1)] [] (mm x R Z Y o A c G g) Q := by
  refine b119_19 hR  (fun h1 => ?_) (fun h1 => ?_)
  · skip
    exact b119_28 hR   (k1 h1)
  · skip
    exact b119_24 hR   (k2 h1)
/-! 120 JobLayer$Task.hear -/
set_option maxRecDepth 20000 in
theorem b120_0 (hR : RS R) {i0 : Nat} {v1 : Int32} {j1 : Nat} (q0 : i0 < 8) (e1 : (A 8 i0 13) - (A 8 i0 13) / (nI 16) * (nI 16) = nI j1) (l1 : j1 < 16)  (k1 : (pm_u (pm_u A 12 i0 j1 v1) 8 i0 13 (((pm_u A 12 i0 j1 v1) 8 i0 13) + (nI 1))) 8 i0 6 = nI 2 → pW ns d 120 31 [some (pm_r 8 i0), some (pm_i v1)] [] (mm x R Z Y o (pm_u (pm_u A 12 i0 j1 v1) 8 i0 13 (((pm_u A 12 i0 j1 v1) 8 i0 13) + (nI 1))) c G g) Q) (k2 : ¬ ((pm_u (pm_u A 12 i0 j1 v1) 8 i0 13 (((pm_u A 12 i0 j1 v1) 8 i0 13) + (nI 1))) 8 i0 6 = nI 2) → pW ns d 120 37 [some (pm_r 8 i0), some (pm_i v1)] [] (mm x R Z Y o (pm_u (pm_u A 12 i0 j1 v1) 8 i0 13 (((pm_u A 12 i0 j1 v1) 8 i0 13) + (nI 1))) c G g) Q) : pW ns d 120 0 [some (pm_r 8 i0), some (pm_i v1)] [] (mm x R Z Y o A c G g) Q := by
  refine pW_eq 2 (pc' := 4) (L' := [some (pm_r 8 i0), some (pm_i v1)]) (S' := [pm_r 12 i0]) (M' := (mm x R Z Y o A c G g)) (fun call n => ?_) ?_
  · refine Eq.trans (b := pm_g (mm x R Z Y o A c G g) 8 i0 (pm_go call ns d 120 n 4 [some (pm_r 8 i0), some (pm_i v1)] [pm_a (R 8 i0 4)] (mm x R Z Y o A c G g))) rfl ?_
    refine (g_ok (f := 8) q0 rfl).trans ?_
    exact (congrArg (fun z => pm_go call ns d 120 n 4 [some (pm_r 8 i0), some (pm_i v1)] [pm_a z] (mm x R Z Y o A c G g)) (rs_8_4 hR q0))
  refine pW_eq 2 (pc' := 8) (L' := [some (pm_r 8 i0), some (pm_i v1)]) (S' := [pm_i (A 8 i0 13), pm_r 12 i0]) (M' := (mm x R Z Y o A c G g)) (fun call n => ?_) ?_
  · refine Eq.trans (b := pm_g (mm x R Z Y o A c G g) 8 i0 (pm_go call ns d 120 n 8 [some (pm_r 8 i0), some (pm_i v1)] [pm_i (A 8 i0 13), pm_r 12 i0] (mm x R Z Y o A c G g))) rfl ?_
    refine (g_ok (f := 8) q0 rfl).trans ?_
    rfl
  refine pW_eq 2 (pc' := 11) (L' := [some (pm_r 8 i0), some (pm_i v1)]) (S' := [pm_i ((A 8 i0 13) - (A 8 i0 13) / (nI 16) * (nI 16)), pm_r 12 i0]) (M' := (mm x R Z Y o A c G g)) (fun call n => ?_) ?_
  · refine Eq.trans (b := if (nI 16) = 0 then none else pm_go call ns d 120 n 11 [some (pm_r 8 i0), some (pm_i v1)] [pm_i ((A 8 i0 13) - (A 8 i0 13) / (nI 16) * (nI 16)), pm_r 12 i0] (mm x R Z Y o A c G g)) rfl ?_
    refine (if_neg (by decide)).trans ?_
    rfl
  refine pW_eq 2 (pc' := 13) (L' := [some (pm_r 8 i0), some (pm_i v1)]) (S' := []) (M' := (mm x R Z Y o (pm_u A 12 i0 j1 v1) c G g)) (fun call n => ?_) ?_
  · refine Eq.trans (b := pm_g (mm x R Z Y o A c G g) 12 i0 (pm_ix ((A 8 i0 13) - (A 8 i0 13) / (nI 16) * (nI 16)) 16 (fun jx => pm_go call ns d 120 n 13 [some (pm_r 8 i0), some (pm_i v1)] [] (pm_u (mA Z A G) 12 i0 jx v1, mB Y o c g, R, pm_tot, x)))) rfl ?_
    refine (g_ok (f := 12) q0 rfl).trans ?_
    refine (ix_ok (j := j1) e1 l1 (by decide)).trans ?_
    exact (congrArg (fun z => pm_go call ns d 120 n 13 [some (pm_r 8 i0), some (pm_i v1)] [] (z, mB Y o c g, R, pm_tot, x)) (uA (by decide)))
  refine pW_eq 3 (pc' := 18) (L' := [some (pm_r 8 i0), some (pm_i v1)]) (S' := [pm_i ((pm_u A 12 i0 j1 v1) 8 i0 13), pm_r 8 i0]) (M' := (mm x R Z Y o (pm_u A 12 i0 j1 v1) c G g)) (fun call n => ?_) ?_
  · refine Eq.trans (b := pm_g (mm x R Z Y o (pm_u A 12 i0 j1 v1) c G g) 8 i0 (pm_go call ns d 120 n 18 [some (pm_r 8 i0), some (pm_i v1)] [pm_i ((pm_u A 12 i0 j1 v1) 8 i0 13), pm_r 8 i0] (mm x R Z Y o (pm_u A 12 i0 j1 v1) c G g))) rfl ?_
    refine (g_ok (f := 8) q0 rfl).trans ?_
    rfl
  refine pW_eq 3 (pc' := 23) (L' := [some (pm_r 8 i0), some (pm_i v1)]) (S' := []) (M' := (mm x R Z Y o (pm_u (pm_u A 12 i0 j1 v1) 8 i0 13 (((pm_u A 12 i0 j1 v1) 8 i0 13) + (nI 1))) c G g)) (fun call n => ?_) ?_
  · refine Eq.trans (b := pm_g (mm x R Z Y o (pm_u A 12 i0 j1 v1) c G g) 8 i0 (pm_go call ns d 120 n 23 [some (pm_r 8 i0), some (pm_i v1)] [] (pm_u (mA Z (pm_u A 12 i0 j1 v1) G) 8 i0 13 (((pm_u A 12 i0 j1 v1) 8 i0 13) + (nI 1)), mB Y o c g, R, pm_tot, x))) rfl ?_
    refine (g_ok (f := 8) q0 rfl).trans ?_
    exact (congrArg (fun z => pm_go call ns d 120 n 23 [some (pm_r 8 i0), some (pm_i v1)] [] (z, mB Y o c g, R, pm_tot, x)) (uA (by decide)))
  refine pW_eq 2 (pc' := 27) (L' := [some (pm_r 8 i0), some (pm_i v1)]) (S' := [pm_i ((pm_u (pm_u A 12 i0 j1 v1) 8 i0 13 (((pm_u A 12 i0 j1 v1) 8 i0 13) + (nI 1))) 8 i0 6)]) (M' := (mm x R Z Y o (pm_u (pm_u A 12 i0 j1 v1) 8 i0 13 (((pm_u A 12 i0 j1 v1) 8 i0 13) + (nI 1))) c G g)) (fun call n => ?_) ?_
  · refine Eq.trans (b := pm_g (mm x R Z Y o (pm_u (pm_u A 12 i0 j1 v1) 8 i0 13 (((pm_u A 12 i0 j1 v1) 8 i0 13) + (nI 1))) c G g) 8 i0 (pm_go call ns d 120 n 27 [some (pm_r 8 i0), some (pm_i v1)] [pm_i ((pm_u (pm_u A 12 i0 j1 v1) 8 i0 13 (((pm_u A 12 i0 j1 v1) 8 i0 13) + (nI 1))) 8 i0 6)] (mm x R Z Y o (pm_u (pm_u A 12 i0 j1 v1) 8 i0 13 (((pm_u A 12 i0 j1 v1) 8 i0 13) + (nI 1))) c G g))) rfl ?_
    refine (g_ok (f := 8) q0 rfl).trans ?_
    rfl
  exact pW_if 2 (c := (pm_u (pm_u A 12 i0 j1 v1) 8 i0 13 (((pm_u A 12 i0 j1 v1) 8 i0 13) + (nI 1))) 8 i0 6 = nI 2) (fun call n => rfl) k1 k2
set_option maxRecDepth 20000 in
theorem b120_31 (hR : RS R) {i0 : Nat} {u1 : Option pm_V} (q0 : i0 < 8) {x2 : Nat} {o2 : Int64} {A2 : Nat → Nat → Nat → Int32} {c2 : Nat → Int64} {G2 : Nat → Nat → Int32} {g2 : Nat → Int64}  (hE : pE ns d 122 [pm_r 8 i0, pm_i (-nI 4)] (mm x R Z Y o A c G g) (.inl (none), (mm x2 R Z Y o2 A2 c2 G2 g2))) (k : pW ns d 120 37 [some (pm_r 8 i0), u1] [] (mm x2 R Z Y o2 A2 c2 G2 g2) Q) : pW ns d 120 31 [some (pm_r 8 i0), u1] [] (mm x R Z Y o A c G g) Q := by
  refine pW_call (pc' := 34) (r := []) (L' := [some (pm_r 8 i0), u1]) 3 (fun call n => ?_) hE k
  exact Eq.trans (b := pm_g (mm x R Z Y o A c G g) 8 i0 (pm_cl call 120 (pm_go call ns d 120 n) 34 122 [pm_r 8 i0, pm_i (-nI 4)] [] [some (pm_r 8 i0), u1] (mm x R Z Y o A c G g))) rfl (g_ok (f := 8) q0 rfl)
set_option maxRecDepth 20000 in
theorem b120_37 (hR : RS R) {u0 : Option pm_V} {u1 : Option pm_V}   (k : Q (.inl none, (mm x R Z Y o A c G g))) : pW ns d 120 37 [u0, u1] [] (mm x R Z Y o A c G g) Q := by
  refine pW_ret 1 (fun call n => ?_) k
  rfl
set_option maxRecDepth 20000 in
theorem t120_0 (hR : RS R) {i0 : Nat} {v1 : Int32} {j1 : Nat} (q0 : i0 < 8) (e1 : (A 8 i0 13) - (A 8 i0 13) / (nI 16) * (nI 16) = nI j1) (l1 : j1 < 16) (k1 : ((pm_u (pm_u A 12 i0 j1 v1) 8 i0 13 (((pm_u A 12 i0 j1 v1) 8 i0 13) + (nI 1))) 8 i0 6 = nI 2) → pW ns d 120 31 [some (pm_r 8 i0), some (pm_i v1)] [] (mm x R Z Y o (pm_u (pm_u A 12 i0 j1 v1) 8 i0 13 (((pm_u A 12 i0 j1 v1) 8 i0 13) + (nI 1))) c G g) Q) (k2 : (¬ ((pm_u (pm_u A 12 i0 j1 v1) 8 i0 13 (((pm_u A 12 i0 j1 v1) 8 i0 13) + (nI 1))) 8 i0 6 = nI 2)) → Q (.inl none, (mm x R Z Y o (pm_u (pm_u A 12 i0 j1 v1) 8 i0 13 (((pm_u A 12 i0 j1 v1) 8 i0 13) + (nI 1))) c G g))) : pW ns d 120 0 [some (pm_r 8 i0), some (pm_i v1)] [] (mm x R Z Y o A c G g) Q := by
  refine b120_0 hR q0 e1 l1 (fun h1 => ?_) (fun h1 => ?_)
  · skip
    exact (k1 h1)
  · skip
    exact b120_37 hR   (k2 h1)
/-! 121 JobLayer$Task.block -/
set_option maxRecDepth 20000 in
theorem b121_0 (hR : RS R) {i0 : Nat} {v1 : Int32} (q0 : i0 < 8)  (k : Q (.inl none, (mm x R Z Y o (pm_u (pm_u (pm_u A 8 i0 6 (nI 2)) 8 i0 11 (-nI 9)) 13 i0 5 v1) c G g))) : pW ns d 121 0 [some (pm_r 8 i0), some (pm_i v1)] [] (mm x R Z Y o A c G g) Q := by
  refine pW_eq 3 (pc' := 5) (L' := [some (pm_r 8 i0), some (pm_i v1)]) (S' := []) (M' := (mm x R Z Y o (pm_u A 8 i0 6 (nI 2)) c G g)) (fun call n => ?_) ?_
  · refine Eq.trans (b := pm_g (mm x R Z Y o A c G g) 8 i0 (pm_go call ns d 121 n 5 [some (pm_r 8 i0), some (pm_i v1)] [] (pm_u (mA Z A G) 8 i0 6 (nI 2), mB Y o c g, R, pm_tot, x))) rfl ?_
    refine (g_ok (f := 8) q0 rfl).trans ?_
    exact (congrArg (fun z => pm_go call ns d 121 n 5 [some (pm_r 8 i0), some (pm_i v1)] [] (z, mB Y o c g, R, pm_tot, x)) (uA (by decide)))
  refine pW_eq 3 (pc' := 11) (L' := [some (pm_r 8 i0), some (pm_i v1)]) (S' := []) (M' := (mm x R Z Y o (pm_u (pm_u A 8 i0 6 (nI 2)) 8 i0 11 (-nI 9)) c G g)) (fun call n => ?_) ?_
  · refine Eq.trans (b := pm_g (mm x R Z Y o (pm_u A 8 i0 6 (nI 2)) c G g) 8 i0 (pm_go call ns d 121 n 11 [some (pm_r 8 i0), some (pm_i v1)] [] (pm_u (mA Z (pm_u A 8 i0 6 (nI 2)) G) 8 i0 11 (-nI 9), mB Y o c g, R, pm_tot, x))) rfl ?_
    refine (g_ok (f := 8) q0 rfl).trans ?_
    exact (congrArg (fun z => pm_go call ns d 121 n 11 [some (pm_r 8 i0), some (pm_i v1)] [] (z, mB Y o c g, R, pm_tot, x)) (uA (by decide)))
  refine pW_eq 2 (pc' := 15) (L' := [some (pm_r 8 i0), some (pm_i v1)]) (S' := [pm_r 13 i0]) (M' := (mm x R Z Y o (pm_u (pm_u A 8 i0 6 (nI 2)) 8 i0 11 (-nI 9)) c G g)) (fun call n => ?_) ?_
  · refine Eq.trans (b := pm_g (mm x R Z Y o (pm_u (pm_u A 8 i0 6 (nI 2)) 8 i0 11 (-nI 9)) c G g) 8 i0 (pm_go call ns d 121 n 15 [some (pm_r 8 i0), some (pm_i v1)] [pm_a (R 8 i0 5)] (mm x R Z Y o (pm_u (pm_u A 8 i0 6 (nI 2)) 8 i0 11 (-nI 9)) c G g))) rfl ?_
    refine (g_ok (f := 8) q0 rfl).trans ?_
    exact (congrArg (fun z => pm_go call ns d 121 n 15 [some (pm_r 8 i0), some (pm_i v1)] [pm_a z] (mm x R Z Y o (pm_u (pm_u A 8 i0 6 (nI 2)) 8 i0 11 (-nI 9)) c G g)) (rs_8_5 hR q0))
  refine pW_eq 2 (pc' := 19) (L' := [some (pm_r 8 i0), some (pm_i v1)]) (S' := []) (M' := (mm x R Z Y o (pm_u (pm_u (pm_u A 8 i0 6 (nI 2)) 8 i0 11 (-nI 9)) 13 i0 5 v1) c G g)) (fun call n => ?_) ?_
  · refine Eq.trans (b := pm_g (mm x R Z Y o (pm_u (pm_u A 8 i0 6 (nI 2)) 8 i0 11 (-nI 9)) c G g) 13 i0 (pm_go call ns d 121 n 19 [some (pm_r 8 i0), some (pm_i v1)] [] (pm_u (mA Z (pm_u (pm_u A 8 i0 6 (nI 2)) 8 i0 11 (-nI 9)) G) 13 i0 5 v1, mB Y o c g, R, pm_tot, x))) rfl ?_
    refine (g_ok (f := 13) q0 rfl).trans ?_
    exact (congrArg (fun z => pm_go call ns d 121 n 19 [some (pm_r 8 i0), some (pm_i v1)] [] (z, mB Y o c g, R, pm_tot, x)) (uA (by decide)))
  refine pW_ret 1 (fun call n => ?_) k
  rfl
/-! 122 JobLayer$Task.unblock -/
set_option maxRecDepth 20000 in
theorem b122_0 (hR : RS R) {i0 : Nat} {v1 : Int32} (q0 : i0 < 8)  (k : Q (.inl none, (mm x R Z Y o (pm_u (pm_u (pm_u A 8 i0 6 (nI 1)) 8 i0 11 v1) 13 i0 0 (nI 0)) c G g))) : pW ns d 122 0 [some (pm_r 8 i0), some (pm_i v1)] [] (mm x R Z Y o A c G g) Q := by
  refine pW_eq 3 (pc' := 5) (L' := [some (pm_r 8 i0), some (pm_i v1)]) (S' := []) (M' := (mm x R Z Y o (pm_u A 8 i0 6 (nI 1)) c G g)) (fun call n => ?_) ?_
  · refine Eq.trans (b := pm_g (mm x R Z Y o A c G g) 8 i0 (pm_go call ns d 122 n 5 [some (pm_r 8 i0), some (pm_i v1)] [] (pm_u (mA Z A G) 8 i0 6 (nI 1), mB Y o c g, R, pm_tot, x))) rfl ?_
    refine (g_ok (f := 8) q0 rfl).trans ?_
    exact (congrArg (fun z => pm_go call ns d 122 n 5 [some (pm_r 8 i0), some (pm_i v1)] [] (z, mB Y o c g, R, pm_tot, x)) (uA (by decide)))
  refine pW_eq 3 (pc' := 10) (L' := [some (pm_r 8 i0), some (pm_i v1)]) (S' := []) (M' := (mm x R Z Y o (pm_u (pm_u A 8 i0 6 (nI 1)) 8 i0 11 v1) c G g)) (fun call n => ?_) ?_
  · refine Eq.trans (b := pm_g (mm x R Z Y o (pm_u A 8 i0 6 (nI 1)) c G g) 8 i0 (pm_go call ns d 122 n 10 [some (pm_r 8 i0), some (pm_i v1)] [] (pm_u (mA Z (pm_u A 8 i0 6 (nI 1)) G) 8 i0 11 v1, mB Y o c g, R, pm_tot, x))) rfl ?_
    refine (g_ok (f := 8) q0 rfl).trans ?_
    exact (congrArg (fun z => pm_go call ns d 122 n 10 [some (pm_r 8 i0), some (pm_i v1)] [] (z, mB Y o c g, R, pm_tot, x)) (uA (by decide)))
  refine pW_eq 2 (pc' := 14) (L' := [some (pm_r 8 i0), some (pm_i v1)]) (S' := [pm_r 13 i0]) (M' := (mm x R Z Y o (pm_u (pm_u A 8 i0 6 (nI 1)) 8 i0 11 v1) c G g)) (fun call n => ?_) ?_
  · refine Eq.trans (b := pm_g (mm x R Z Y o (pm_u (pm_u A 8 i0 6 (nI 1)) 8 i0 11 v1) c G g) 8 i0 (pm_go call ns d 122 n 14 [some (pm_r 8 i0), some (pm_i v1)] [pm_a (R 8 i0 5)] (mm x R Z Y o (pm_u (pm_u A 8 i0 6 (nI 1)) 8 i0 11 v1) c G g))) rfl ?_
    refine (g_ok (f := 8) q0 rfl).trans ?_
    exact (congrArg (fun z => pm_go call ns d 122 n 14 [some (pm_r 8 i0), some (pm_i v1)] [pm_a z] (mm x R Z Y o (pm_u (pm_u A 8 i0 6 (nI 1)) 8 i0 11 v1) c G g)) (rs_8_5 hR q0))
  refine pW_eq 2 (pc' := 18) (L' := [some (pm_r 8 i0), some (pm_i v1)]) (S' := []) (M' := (mm x R Z Y o (pm_u (pm_u (pm_u A 8 i0 6 (nI 1)) 8 i0 11 v1) 13 i0 0 (nI 0)) c G g)) (fun call n => ?_) ?_
  · refine Eq.trans (b := pm_g (mm x R Z Y o (pm_u (pm_u A 8 i0 6 (nI 1)) 8 i0 11 v1) c G g) 13 i0 (pm_go call ns d 122 n 18 [some (pm_r 8 i0), some (pm_i v1)] [] (pm_u (mA Z (pm_u (pm_u A 8 i0 6 (nI 1)) 8 i0 11 v1) G) 13 i0 0 (nI 0), mB Y o c g, R, pm_tot, x))) rfl ?_
    refine (g_ok (f := 13) q0 rfl).trans ?_
    exact (congrArg (fun z => pm_go call ns d 122 n 18 [some (pm_r 8 i0), some (pm_i v1)] [] (z, mB Y o c g, R, pm_tot, x)) (uA (by decide)))
  refine pW_ret 1 (fun call n => ?_) k
  rfl
/-! 124 JobLayer$Terminal.show -/
set_option maxRecDepth 20000 in
theorem b124_0 (hR : RS R) {v1 : Int32} {j1 : Nat} (e1 : (A 3 0 6) - (A 3 0 6) / (nI 64) * (nI 64) = nI j1) (l1 : j1 < 64)  (k : Q (.inl none, (mm x R Z Y o (pm_u (pm_u A 15 0 j1 v1) 3 0 6 (((pm_u A 15 0 j1 v1) 3 0 6) + (nI 1))) c G g))) : pW ns d 124 0 [some (pm_r 3 0), some (pm_i v1)] [] (mm x R Z Y o A c G g) Q := by
  refine pW_eq 2 (pc' := 4) (L' := [some (pm_r 3 0), some (pm_i v1)]) (S' := [pm_r 15 0]) (M' := (mm x R Z Y o A c G g)) (fun call n => ?_) ?_
  · refine Eq.trans (b := pm_g (mm x R Z Y o A c G g) 3 0 (pm_go call ns d 124 n 4 [some (pm_r 3 0), some (pm_i v1)] [pm_a (R 3 0 2)] (mm x R Z Y o A c G g))) rfl ?_
    refine (g_ok (f := 3) (by decide) rfl).trans ?_
    exact (congrArg (fun z => pm_go call ns d 124 n 4 [some (pm_r 3 0), some (pm_i v1)] [pm_a z] (mm x R Z Y o A c G g)) (rs_3_2 hR))
  refine pW_eq 2 (pc' := 8) (L' := [some (pm_r 3 0), some (pm_i v1)]) (S' := [pm_i (A 3 0 6), pm_r 15 0]) (M' := (mm x R Z Y o A c G g)) (fun call n => ?_) ?_
  · refine Eq.trans (b := pm_g (mm x R Z Y o A c G g) 3 0 (pm_go call ns d 124 n 8 [some (pm_r 3 0), some (pm_i v1)] [pm_i (A 3 0 6), pm_r 15 0] (mm x R Z Y o A c G g))) rfl ?_
    refine (g_ok (f := 3) (by decide) rfl).trans ?_
    rfl
  refine pW_eq 2 (pc' := 11) (L' := [some (pm_r 3 0), some (pm_i v1)]) (S' := [pm_i ((A 3 0 6) - (A 3 0 6) / (nI 64) * (nI 64)), pm_r 15 0]) (M' := (mm x R Z Y o A c G g)) (fun call n => ?_) ?_
  · refine Eq.trans (b := if (nI 64) = 0 then none else pm_go call ns d 124 n 11 [some (pm_r 3 0), some (pm_i v1)] [pm_i ((A 3 0 6) - (A 3 0 6) / (nI 64) * (nI 64)), pm_r 15 0] (mm x R Z Y o A c G g)) rfl ?_
    refine (if_neg (by decide)).trans ?_
    rfl
  refine pW_eq 2 (pc' := 13) (L' := [some (pm_r 3 0), some (pm_i v1)]) (S' := []) (M' := (mm x R Z Y o (pm_u A 15 0 j1 v1) c G g)) (fun call n => ?_) ?_
  · refine Eq.trans (b := pm_g (mm x R Z Y o A c G g) 15 0 (pm_ix ((A 3 0 6) - (A 3 0 6) / (nI 64) * (nI 64)) 64 (fun jx => pm_go call ns d 124 n 13 [some (pm_r 3 0), some (pm_i v1)] [] (pm_u (mA Z A G) 15 0 jx v1, mB Y o c g, R, pm_tot, x)))) rfl ?_
    refine (g_ok (f := 15) (by decide) rfl).trans ?_
    refine (ix_ok (j := j1) e1 l1 (by decide)).trans ?_
    exact (congrArg (fun z => pm_go call ns d 124 n 13 [some (pm_r 3 0), some (pm_i v1)] [] (z, mB Y o c g, R, pm_tot, x)) (uA (by decide)))
  refine pW_eq 3 (pc' := 18) (L' := [some (pm_r 3 0), some (pm_i v1)]) (S' := [pm_i ((pm_u A 15 0 j1 v1) 3 0 6), pm_r 3 0]) (M' := (mm x R Z Y o (pm_u A 15 0 j1 v1) c G g)) (fun call n => ?_) ?_
  · refine Eq.trans (b := pm_g (mm x R Z Y o (pm_u A 15 0 j1 v1) c G g) 3 0 (pm_go call ns d 124 n 18 [some (pm_r 3 0), some (pm_i v1)] [pm_i ((pm_u A 15 0 j1 v1) 3 0 6), pm_r 3 0] (mm x R Z Y o (pm_u A 15 0 j1 v1) c G g))) rfl ?_
    refine (g_ok (f := 3) (by decide) rfl).trans ?_
    rfl
  refine pW_eq 3 (pc' := 23) (L' := [some (pm_r 3 0), some (pm_i v1)]) (S' := []) (M' := (mm x R Z Y o (pm_u (pm_u A 15 0 j1 v1) 3 0 6 (((pm_u A 15 0 j1 v1) 3 0 6) + (nI 1))) c G g)) (fun call n => ?_) ?_
  · refine Eq.trans (b := pm_g (mm x R Z Y o (pm_u A 15 0 j1 v1) c G g) 3 0 (pm_go call ns d 124 n 23 [some (pm_r 3 0), some (pm_i v1)] [] (pm_u (mA Z (pm_u A 15 0 j1 v1) G) 3 0 6 (((pm_u A 15 0 j1 v1) 3 0 6) + (nI 1)), mB Y o c g, R, pm_tot, x))) rfl ?_
    refine (g_ok (f := 3) (by decide) rfl).trans ?_
    exact (congrArg (fun z => pm_go call ns d 124 n 23 [some (pm_r 3 0), some (pm_i v1)] [] (z, mB Y o c g, R, pm_tot, x)) (uA (by decide)))
  refine pW_ret 1 (fun call n => ?_) k
  rfl
/-! 125 JobLayer$Terminal.press -/
set_option maxRecDepth 20000 in
theorem b125_0 (hR : RS R) {v1 : Int32}   (k1 : v1 = nI 8 → pW ns d 125 6 [some (pm_r 3 0), some (pm_i v1)] [] (mm x R Z Y o A c G g) Q) (k2 : ¬ (v1 = nI 8) → pW ns d 125 21 [some (pm_r 3 0), some (pm_i v1)] [] (mm x R Z Y o A c G g) Q) : pW ns d 125 0 [some (pm_r 3 0), some (pm_i v1)] [] (mm x R Z Y o A c G g) Q := by
  exact pW_if 3 (c := v1 = nI 8) (fun call n => rfl) k1 k2
set_option maxRecDepth 20000 in
theorem b125_6 (hR : RS R) {u1 : Option pm_V}  {x2 : Nat} {o2 : Int64} {A2 : Nat → Nat → Nat → Int32} {c2 : Nat → Int64} {G2 : Nat → Nat → Int32} {g2 : Nat → Int64}  (hE : pE ns d 127 [pm_r 3 0, pm_i (if A 3 0 4 < nI 1 then A 3 0 4 else nI 1)] (mm x R Z Y o A c G g) (.inl (none), (mm x2 R Z Y o2 A2 c2 G2 g2))) (k : pW ns d 125 18 [some (pm_r 3 0), u1] [] (mm x2 R Z Y o2 A2 c2 G2 g2) Q) : pW ns d 125 6 [some (pm_r 3 0), u1] [] (mm x R Z Y o A c G g) Q := by
  refine pW_eq 4 (pc' := 12) (L' := [some (pm_r 3 0), u1]) (S' := [pm_i (A 3 0 4), pm_i (nI 1), pm_r 3 0]) (M' := (mm x R Z Y o A c G g)) (fun call n => ?_) ?_
  · refine Eq.trans (b := pm_g (mm x R Z Y o A c G g) 3 0 (pm_go call ns d 125 n 12 [some (pm_r 3 0), u1] [pm_i (A 3 0 4), pm_i (nI 1), pm_r 3 0] (mm x R Z Y o A c G g))) rfl ?_
    refine (g_ok (f := 3) (by decide) rfl).trans ?_
    rfl
  refine pW_call (pc' := 15) (r := []) (L' := [some (pm_r 3 0), u1]) 2 (fun call n => ?_) hE k
  exact Eq.trans (b := pm_g (mm x R Z Y o A c G g) 3 0 (pm_cl call 125 (pm_go call ns d 125 n) 15 127 [pm_r 3 0, pm_i (if A 3 0 4 < nI 1 then A 3 0 4 else nI 1)] [] [some (pm_r 3 0), u1] (mm x R Z Y o A c G g))) rfl (g_ok (f := 3) (by decide) rfl)
set_option maxRecDepth 20000 in
theorem b125_21 (hR : RS R) {v1 : Int32}   (k1 : v1 = nI 21 → pW ns d 125 27 [some (pm_r 3 0), some (pm_i v1)] [] (mm x R Z Y o A c G g) Q) (k2 : ¬ (v1 = nI 21) → pW ns d 125 38 [some (pm_r 3 0), some (pm_i v1)] [] (mm x R Z Y o A c G g) Q) : pW ns d 125 21 [some (pm_r 3 0), some (pm_i v1)] [] (mm x R Z Y o A c G g) Q := by
  exact pW_if 3 (c := v1 = nI 21) (fun call n => rfl) k1 k2
set_option maxRecDepth 20000 in
theorem b125_18 (hR : RS R) {u0 : Option pm_V} {u1 : Option pm_V}   (k : Q (.inl none, (mm x R Z Y o A c G g))) : pW ns d 125 18 [u0, u1] [] (mm x R Z Y o A c G g) Q := by
  refine pW_ret 2 (fun call n => ?_) k
  rfl
set_option maxRecDepth 20000 in
theorem b125_27 (hR : RS R) {u1 : Option pm_V}  {x2 : Nat} {o2 : Int64} {A2 : Nat → Nat → Nat → Int32} {c2 : Nat → Int64} {G2 : Nat → Nat → Int32} {g2 : Nat → Int64}  (hE : pE ns d 127 [pm_r 3 0, pm_i (A 3 0 4)] (mm x R Z Y o A c G g) (.inl (none), (mm x2 R Z Y o2 A2 c2 G2 g2))) (k : pW ns d 125 35 [some (pm_r 3 0), u1] [] (mm x2 R Z Y o2 A2 c2 G2 g2) Q) : pW ns d 125 27 [some (pm_r 3 0), u1] [] (mm x R Z Y o A c G g) Q := by
  refine pW_eq 3 (pc' := 32) (L' := [some (pm_r 3 0), u1]) (S' := [pm_i (A 3 0 4), pm_r 3 0]) (M' := (mm x R Z Y o A c G g)) (fun call n => ?_) ?_
  · refine Eq.trans (b := pm_g (mm x R Z Y o A c G g) 3 0 (pm_go call ns d 125 n 32 [some (pm_r 3 0), u1] [pm_i (A 3 0 4), pm_r 3 0] (mm x R Z Y o A c G g))) rfl ?_
    refine (g_ok (f := 3) (by decide) rfl).trans ?_
    rfl
  refine pW_call (pc' := 32) (r := []) (L' := [some (pm_r 3 0), u1]) 1 (fun call n => ?_) hE k
  exact Eq.trans (b := pm_g (mm x R Z Y o A c G g) 3 0 (pm_cl call 125 (pm_go call ns d 125 n) 32 127 [pm_r 3 0, pm_i (A 3 0 4)] [] [some (pm_r 3 0), u1] (mm x R Z Y o A c G g))) rfl (g_ok (f := 3) (by decide) rfl)
set_option maxRecDepth 20000 in
theorem b125_38 (hR : RS R) {v1 : Int32}   (k1 : v1 = nI 4 → pW ns d 125 43 [some (pm_r 3 0), some (pm_i v1)] [] (mm x R Z Y o A c G g) Q) (k2 : ¬ (v1 = nI 4) → pW ns d 125 50 [some (pm_r 3 0), some (pm_i v1)] [] (mm x R Z Y o A c G g) Q) : pW ns d 125 38 [some (pm_r 3 0), some (pm_i v1)] [] (mm x R Z Y o A c G g) Q := by
  exact pW_if 3 (c := v1 = nI 4) (fun call n => rfl) k1 k2
set_option maxRecDepth 20000 in
theorem b125_35 (hR : RS R) {u0 : Option pm_V} {u1 : Option pm_V}   (k : Q (.inl none, (mm x R Z Y o A c G g))) : pW ns d 125 35 [u0, u1] [] (mm x R Z Y o A c G g) Q := by
  refine pW_ret 2 (fun call n => ?_) k
  rfl
set_option maxRecDepth 20000 in
theorem b125_43 (hR : RS R) {u1 : Option pm_V}  {x2 : Nat} {o2 : Int64} {A2 : Nat → Nat → Nat → Int32} {c2 : Nat → Int64} {G2 : Nat → Nat → Int32} {g2 : Nat → Int64}  (hE : pE ns d 128 [pm_r 3 0] (mm x R Z Y o A c G g) (.inl (none), (mm x2 R Z Y o2 A2 c2 G2 g2))) (k : pW ns d 125 47 [some (pm_r 3 0), u1] [] (mm x2 R Z Y o2 A2 c2 G2 g2) Q) : pW ns d 125 43 [some (pm_r 3 0), u1] [] (mm x R Z Y o A c G g) Q := by
  refine pW_call (pc' := 44) (r := []) (L' := [some (pm_r 3 0), u1]) 2 (fun call n => ?_) hE k
  exact Eq.trans (b := pm_g (mm x R Z Y o A c G g) 3 0 (pm_cl call 125 (pm_go call ns d 125 n) 44 128 [pm_r 3 0] [] [some (pm_r 3 0), u1] (mm x R Z Y o A c G g))) rfl (g_ok (f := 3) (by decide) rfl)
set_option maxRecDepth 20000 in
theorem b125_50 (hR : RS R) {v1 : Int32}   (k1 : v1 = nI 10 → pW ns d 125 56 [some (pm_r 3 0), some (pm_i v1)] [] (mm x R Z Y o A c G g) Q) (k2 : ¬ (v1 = nI 10) → pW ns d 125 87 [some (pm_r 3 0), some (pm_i v1)] [] (mm x R Z Y o A c G g) Q) : pW ns d 125 50 [some (pm_r 3 0), some (pm_i v1)] [] (mm x R Z Y o A c G g) Q := by
  exact pW_if 3 (c := v1 = nI 10) (fun call n => rfl) k1 k2
set_option maxRecDepth 20000 in
theorem b125_47 (hR : RS R) {u0 : Option pm_V} {u1 : Option pm_V}   (k : Q (.inl none, (mm x R Z Y o A c G g))) : pW ns d 125 47 [u0, u1] [] (mm x R Z Y o A c G g) Q := by
  refine pW_ret 2 (fun call n => ?_) k
  rfl
set_option maxRecDepth 20000 in
theorem b125_56 (hR : RS R) {v1 : Int32}   (k1 : nI 8 ≤ A 3 0 3 → pW ns d 125 104 [some (pm_r 3 0), some (pm_i v1)] [] (mm x R Z Y o A c G g) Q) (k2 : ¬ (nI 8 ≤ A 3 0 3) → pW ns d 125 65 [some (pm_r 3 0), some (pm_i v1)] [] (mm x R Z Y o A c G g) Q) : pW ns d 125 56 [some (pm_r 3 0), some (pm_i v1)] [] (mm x R Z Y o A c G g) Q := by
  refine pW_eq 2 (pc' := 60) (L' := [some (pm_r 3 0), some (pm_i v1)]) (S' := [pm_i (A 3 0 3)]) (M' := (mm x R Z Y o A c G g)) (fun call n => ?_) ?_
  · refine Eq.trans (b := pm_g (mm x R Z Y o A c G g) 3 0 (pm_go call ns d 125 n 60 [some (pm_r 3 0), some (pm_i v1)] [pm_i (A 3 0 3)] (mm x R Z Y o A c G g))) rfl ?_
    refine (g_ok (f := 3) (by decide) rfl).trans ?_
    rfl
  exact pW_if 2 (c := nI 8 ≤ A 3 0 3) (fun call n => rfl) k1 k2
set_option maxRecDepth 20000 in
theorem b125_87 (hR : RS R) {v1 : Int32}   (k1 : v1 < nI 32 → pW ns d 125 104 [some (pm_r 3 0), some (pm_i v1)] [] (mm x R Z Y o A c G g) Q) (k2 : ¬ (v1 < nI 32) → pW ns d 125 93 [some (pm_r 3 0), some (pm_i v1)] [] (mm x R Z Y o A c G g) Q) : pW ns d 125 87 [some (pm_r 3 0), some (pm_i v1)] [] (mm x R Z Y o A c G g) Q := by
  exact pW_if 3 (c := v1 < nI 32) (fun call n => rfl) k1 k2
set_option maxRecDepth 20000 in
theorem b125_104 (hR : RS R) {u0 : Option pm_V} {u1 : Option pm_V}   (k : Q (.inl none, (mm x R Z Y o A c G g))) : pW ns d 125 104 [u0, u1] [] (mm x R Z Y o A c G g) Q := by
  refine pW_ret 1 (fun call n => ?_) k
  rfl
set_option maxRecDepth 20000 in
theorem b125_65 (hR : RS R) {v1 : Int32}  {x2 : Nat} {o2 : Int64} {A2 : Nat → Nat → Nat → Int32} {c2 : Nat → Int64} {G2 : Nat → Nat → Int32} {g2 : Nat → Int64} {y : Int32} (hE : pE ns d 103 [pm_r 6 0] (mm x R Z Y o A c G g) (.inl (some (pm_i y)), (mm x2 R Z Y o2 A2 c2 G2 g2))) (k : pW ns d 125 72 [some (pm_r 3 0), some (pm_i v1)] [pm_i y] (mm x2 R Z Y o2 A2 c2 G2 g2) Q) : pW ns d 125 65 [some (pm_r 3 0), some (pm_i v1)] [] (mm x R Z Y o A c G g) Q := by
  refine pW_eq 2 (pc' := 69) (L' := [some (pm_r 3 0), some (pm_i v1)]) (S' := [pm_r 6 0]) (M' := (mm x R Z Y o A c G g)) (fun call n => ?_) ?_
  · refine Eq.trans (b := pm_g (mm x R Z Y o A c G g) 3 0 (pm_go call ns d 125 n 69 [some (pm_r 3 0), some (pm_i v1)] [pm_a (R 3 0 0)] (mm x R Z Y o A c G g))) rfl ?_
    refine (g_ok (f := 3) (by decide) rfl).trans ?_
    exact (congrArg (fun z => pm_go call ns d 125 n 69 [some (pm_r 3 0), some (pm_i v1)] [pm_a z] (mm x R Z Y o A c G g)) (rs_3_0 hR))
  refine pW_call (pc' := 69) (r := []) (L' := [some (pm_r 3 0), some (pm_i v1)]) 1 (fun call n => ?_) hE k
  exact Eq.trans (b := pm_g (mm x R Z Y o A c G g) 6 0 (pm_cl call 125 (pm_go call ns d 125 n) 69 103 [pm_r 6 0] [] [some (pm_r 3 0), some (pm_i v1)] (mm x R Z Y o A c G g))) rfl (g_ok (f := 6) (by decide) rfl)
set_option maxRecDepth 20000 in
theorem b125_93 (hR : RS R) {v1 : Int32}   (k1 : nI 126 < v1 → pW ns d 125 104 [some (pm_r 3 0), some (pm_i v1)] [] (mm x R Z Y o A c G g) Q) (k2 : ¬ (nI 126 < v1) → pW ns d 125 99 [some (pm_r 3 0), some (pm_i v1)] [] (mm x R Z Y o A c G g) Q) : pW ns d 125 93 [some (pm_r 3 0), some (pm_i v1)] [] (mm x R Z Y o A c G g) Q := by
  exact pW_if 3 (c := nI 126 < v1) (fun call n => rfl) k1 k2
set_option maxRecDepth 20000 in
theorem b125_72 (hR : RS R) {v1 : Int32} {vs0 : Int32}   (k1 : vs0 ≤ 0 → pW ns d 125 104 [some (pm_r 3 0), some (pm_i v1)] [] (mm x R Z Y o A c G g) Q) (k2 : ¬ (vs0 ≤ 0) → pW ns d 125 75 [some (pm_r 3 0), some (pm_i v1)] [] (mm x R Z Y o A c G g) Q) : pW ns d 125 72 [some (pm_r 3 0), some (pm_i v1)] [pm_i vs0] (mm x R Z Y o A c G g) Q := by
  exact pW_if 1 (c := vs0 ≤ 0) (fun call n => rfl) k1 k2
set_option maxRecDepth 20000 in
theorem b125_99 (hR : RS R) {v1 : Int32}  {x2 : Nat} {o2 : Int64} {A2 : Nat → Nat → Nat → Int32} {c2 : Nat → Int64} {G2 : Nat → Nat → Int32} {g2 : Nat → Int64}  (hE : pE ns d 126 [pm_r 3 0, pm_i v1] (mm x R Z Y o A c G g) (.inl (none), (mm x2 R Z Y o2 A2 c2 G2 g2))) (k : pW ns d 125 104 [some (pm_r 3 0), some (pm_i v1)] [] (mm x2 R Z Y o2 A2 c2 G2 g2) Q) : pW ns d 125 99 [some (pm_r 3 0), some (pm_i v1)] [] (mm x R Z Y o A c G g) Q := by
  refine pW_call (pc' := 101) (r := []) (L' := [some (pm_r 3 0), some (pm_i v1)]) 3 (fun call n => ?_) hE k
  exact Eq.trans (b := pm_g (mm x R Z Y o A c G g) 3 0 (pm_cl call 125 (pm_go call ns d 125 n) 101 126 [pm_r 3 0, pm_i v1] [] [some (pm_r 3 0), some (pm_i v1)] (mm x R Z Y o A c G g))) rfl (g_ok (f := 3) (by decide) rfl)
set_option maxRecDepth 20000 in
theorem b125_75 (hR : RS R) {v1 : Int32}  {x2 : Nat} {o2 : Int64} {A2 : Nat → Nat → Nat → Int32} {c2 : Nat → Int64} {G2 : Nat → Nat → Int32} {g2 : Nat → Int64}  (hE : pE ns d 126 [pm_r 3 0, pm_i v1] (mm x R Z Y o A c G g) (.inl (none), (mm x2 R Z Y o2 A2 c2 G2 g2))) (k : pW ns d 125 80 [some (pm_r 3 0), some (pm_i v1)] [] (mm x2 R Z Y o2 A2 c2 G2 g2) Q) : pW ns d 125 75 [some (pm_r 3 0), some (pm_i v1)] [] (mm x R Z Y o A c G g) Q := by
  refine pW_call (pc' := 77) (r := []) (L' := [some (pm_r 3 0), some (pm_i v1)]) 3 (fun call n => ?_) hE k
  exact Eq.trans (b := pm_g (mm x R Z Y o A c G g) 3 0 (pm_cl call 125 (pm_go call ns d 125 n) 77 126 [pm_r 3 0, pm_i v1] [] [some (pm_r 3 0), some (pm_i v1)] (mm x R Z Y o A c G g))) rfl (g_ok (f := 3) (by decide) rfl)
set_option maxRecDepth 20000 in
theorem b125_80 (hR : RS R) {u1 : Option pm_V}  {x2 : Nat} {o2 : Int64} {A2 : Nat → Nat → Nat → Int32} {c2 : Nat → Int64} {G2 : Nat → Nat → Int32} {g2 : Nat → Int64}  (hE : pE ns d 128 [pm_r 3 0] (mm x R Z Y o A c G g) (.inl (none), (mm x2 R Z Y o2 A2 c2 G2 g2))) (k : pW ns d 125 84 [some (pm_r 3 0), u1] [] (mm x2 R Z Y o2 A2 c2 G2 g2) Q) : pW ns d 125 80 [some (pm_r 3 0), u1] [] (mm x R Z Y o A c G g) Q := by
  refine pW_call (pc' := 81) (r := []) (L' := [some (pm_r 3 0), u1]) 2 (fun call n => ?_) hE k
  exact Eq.trans (b := pm_g (mm x R Z Y o A c G g) 3 0 (pm_cl call 125 (pm_go call ns d 125 n) 81 128 [pm_r 3 0] [] [some (pm_r 3 0), u1] (mm x R Z Y o A c G g))) rfl (g_ok (f := 3) (by decide) rfl)
set_option maxRecDepth 20000 in
theorem b125_84 (hR : RS R) {u0 : Option pm_V} {u1 : Option pm_V}   (k : Q (.inl none, (mm x R Z Y o A c G g))) : pW ns d 125 84 [u0, u1] [] (mm x R Z Y o A c G g) Q := by
  refine pW_ret 2 (fun call n => ?_) k
  rfl
set_option maxRecDepth 20000 in
theorem t125_0 (hR : RS R) {v1 : Int32}  (k1 : (v1 = nI 8) → pW ns d 125 6 [some (pm_r 3 0), some (pm_i v1)] [] (mm x R Z Y o A c G g) Q) (k2 : (¬ (v1 = nI 8)) → (v1 = nI 21) → pW ns d 125 27 [some (pm_r 3 0), some (pm_i v1)] [] (mm x R Z Y o A c G g) Q) (k3 : (¬ (v1 = nI 8)) → (¬ (v1 = nI 21)) → (v1 = nI 4) → pW ns d 125 43 [some (pm_r 3 0), some (pm_i v1)] [] (mm x R Z Y o A c G g) Q) (k4 : (¬ (v1 = nI 8)) → (¬ (v1 = nI 21)) → (¬ (v1 = nI 4)) → (v1 = nI 10) → (nI 8 ≤ A 3 0 3) → Q (.inl none, (mm x R Z Y o A c G g))) (k5 : (¬ (v1 = nI 8)) → (¬ (v1 = nI 21)) → (¬ (v1 = nI 4)) → (v1 = nI 10) → (¬ (nI 8 ≤ A 3 0 3)) → pW ns d 125 65 [some (pm_r 3 0), some (pm_i v1)] [] (mm x R Z Y o A c G g) Q) (k6 : (¬ (v1 = nI 8)) → (¬ (v1 = nI 21)) → (¬ (v1 = nI 4)) → (¬ (v1 = nI 10)) → (v1 < nI 32) → Q (.inl none, (mm x R Z Y o A c G g))) (k7 : (¬ (v1 = nI 8)) → (¬ (v1 = nI 21)) → (¬ (v1 = nI 4)) → (¬ (v1 = nI 10)) → (¬ (v1 < nI 32)) → (nI 126 < v1) → Q (.inl none, (mm x R Z Y o A c G g))) (k8 : (¬ (v1 = nI 8)) → (¬ (v1 = nI 21)) → (¬ (v1 = nI 4)) → (¬ (v1 = nI 10)) → (¬ (v1 < nI 32)) → (¬ (nI 126 < v1)) → pW ns d 125 99 [some (pm_r 3 0), some (pm_i v1)] [] (mm x R Z Y o A c G g) Q) : pW ns d 125 0 [some (pm_r 3 0), some (pm_i v1)] [] (mm x R Z Y o A c G g) Q := by
  refine b125_0 hR  (fun h1 => ?_) (fun h1 => ?_)
  · skip
    exact (k1 h1)
  · skip
    refine b125_21 hR   (fun h2 => ?_) (fun h2 => ?_)
    · skip
      exact (k2 h1 h2)
    · skip
      refine b125_38 hR   (fun h3 => ?_) (fun h3 => ?_)
      · skip
        exact (k3 h1 h2 h3)
      · skip
        refine b125_50 hR   (fun h4 => ?_) (fun h4 => ?_)
        · skip
          refine b125_56 hR   (fun h5 => ?_) (fun h5 => ?_)
          · skip
            exact b125_104 hR   (k4 h1 h2 h3 h4 h5)
          · skip
            exact (k5 h1 h2 h3 h4 h5)
        · skip
          refine b125_87 hR   (fun h5 => ?_) (fun h5 => ?_)
          · skip
            exact b125_104 hR   (k6 h1 h2 h3 h4 h5)
          · skip
            refine b125_93 hR   (fun h6 => ?_) (fun h6 => ?_)
            · skip
              exact b125_104 hR   (k7 h1 h2 h3 h4 h5 h6)
            · skip
              exact (k8 h1 h2 h3 h4 h5 h6)
set_option maxRecDepth 20000 in
theorem t125_21 (hR : RS R) {v1 : Int32}  (k1 : (v1 = nI 21) → pW ns d 125 27 [some (pm_r 3 0), some (pm_i v1)] [] (mm x R Z Y o A c G g) Q) (k2 : (¬ (v1 = nI 21)) → (v1 = nI 4) → pW ns d 125 43 [some (pm_r 3 0), some (pm_i v1)] [] (mm x R Z Y o A c G g) Q) (k3 : (¬ (v1 = nI 21)) → (¬ (v1 = nI 4)) → (v1 = nI 10) → (nI 8 ≤ A 3 0 3) → Q (.inl none, (mm x R Z Y o A c G g))) (k4 : (¬ (v1 = nI 21)) → (¬ (v1 = nI 4)) → (v1 = nI 10) → (¬ (nI 8 ≤ A 3 0 3)) → pW ns d 125 65 [some (pm_r 3 0), some (pm_i v1)] [] (mm x R Z Y o A c G g) Q) (k5 : (¬ (v1 = nI 21)) → (¬ (v1 = nI 4)) → (¬ (v1 = nI 10)) → (v1 < nI 32) → Q (.inl none, (mm x R Z Y o A c G g))) (k6 : (¬ (v1 = nI 21)) → (¬ (v1 = nI 4)) → (¬ (v1 = nI 10)) → (¬ (v1 < nI 32)) → (nI 126 < v1) → Q (.inl none, (mm x R Z Y o A c G g))) (k7 : (¬ (v1 = nI 21)) → (¬ (v1 = nI 4)) → (¬ (v1 = nI 10)) → (¬ (v1 < nI 32)) → (¬ (nI 126 < v1)) → pW ns d 125 99 [some (pm_r 3 0), some (pm_i v1)] [] (mm x R Z Y o A c G g) Q) : pW ns d 125 21 [some (pm_r 3 0), some (pm_i v1)] [] (mm x R Z Y o A c G g) Q := by
  refine b125_21 hR  (fun h1 => ?_) (fun h1 => ?_)
  · skip
    exact (k1 h1)
  · skip
    refine b125_38 hR   (fun h2 => ?_) (fun h2 => ?_)
    · skip
      exact (k2 h1 h2)
    · skip
      refine b125_50 hR   (fun h3 => ?_) (fun h3 => ?_)
      · skip
        refine b125_56 hR   (fun h4 => ?_) (fun h4 => ?_)
        · skip
          exact b125_104 hR   (k3 h1 h2 h3 h4)
        · skip
          exact (k4 h1 h2 h3 h4)
      · skip
        refine b125_87 hR   (fun h4 => ?_) (fun h4 => ?_)
        · skip
          exact b125_104 hR   (k5 h1 h2 h3 h4)
        · skip
          refine b125_93 hR   (fun h5 => ?_) (fun h5 => ?_)
          · skip
            exact b125_104 hR   (k6 h1 h2 h3 h4 h5)
          · skip
            exact (k7 h1 h2 h3 h4 h5)
set_option maxRecDepth 20000 in
theorem t125_38 (hR : RS R) {v1 : Int32}  (k1 : (v1 = nI 4) → pW ns d 125 43 [some (pm_r 3 0), some (pm_i v1)] [] (mm x R Z Y o A c G g) Q) (k2 : (¬ (v1 = nI 4)) → (v1 = nI 10) → (nI 8 ≤ A 3 0 3) → Q (.inl none, (mm x R Z Y o A c G g))) (k3 : (¬ (v1 = nI 4)) → (v1 = nI 10) → (¬ (nI 8 ≤ A 3 0 3)) → pW ns d 125 65 [some (pm_r 3 0), some (pm_i v1)] [] (mm x R Z Y o A c G g) Q) (k4 : (¬ (v1 = nI 4)) → (¬ (v1 = nI 10)) → (v1 < nI 32) → Q (.inl none, (mm x R Z Y o A c G g))) (k5 : (¬ (v1 = nI 4)) → (¬ (v1 = nI 10)) → (¬ (v1 < nI 32)) → (nI 126 < v1) → Q (.inl none, (mm x R Z Y o A c G g))) (k6 : (¬ (v1 = nI 4)) → (¬ (v1 = nI 10)) → (¬ (v1 < nI 32)) → (¬ (nI 126 < v1)) → pW ns d 125 99 [some (pm_r 3 0), some (pm_i v1)] [] (mm x R Z Y o A c G g) Q) : pW ns d 125 38 [some (pm_r 3 0), some (pm_i v1)] [] (mm x R Z Y o A c G g) Q := by
  refine b125_38 hR  (fun h1 => ?_) (fun h1 => ?_)
  · skip
    exact (k1 h1)
  · skip
    refine b125_50 hR   (fun h2 => ?_) (fun h2 => ?_)
    · skip
      refine b125_56 hR   (fun h3 => ?_) (fun h3 => ?_)
      · skip
        exact b125_104 hR   (k2 h1 h2 h3)
      · skip
        exact (k3 h1 h2 h3)
    · skip
      refine b125_87 hR   (fun h3 => ?_) (fun h3 => ?_)
      · skip
        exact b125_104 hR   (k4 h1 h2 h3)
      · skip
        refine b125_93 hR   (fun h4 => ?_) (fun h4 => ?_)
        · skip
          exact b125_104 hR   (k5 h1 h2 h3 h4)
        · skip
          exact (k6 h1 h2 h3 h4)
set_option maxRecDepth 20000 in
theorem t125_50 (hR : RS R) {v1 : Int32}  (k1 : (v1 = nI 10) → (nI 8 ≤ A 3 0 3) → Q (.inl none, (mm x R Z Y o A c G g))) (k2 : (v1 = nI 10) → (¬ (nI 8 ≤ A 3 0 3)) → pW ns d 125 65 [some (pm_r 3 0), some (pm_i v1)] [] (mm x R Z Y o A c G g) Q) (k3 : (¬ (v1 = nI 10)) → (v1 < nI 32) → Q (.inl none, (mm x R Z Y o A c G g))) (k4 : (¬ (v1 = nI 10)) → (¬ (v1 < nI 32)) → (nI 126 < v1) → Q (.inl none, (mm x R Z Y o A c G g))) (k5 : (¬ (v1 = nI 10)) → (¬ (v1 < nI 32)) → (¬ (nI 126 < v1)) → pW ns d 125 99 [some (pm_r 3 0), some (pm_i v1)] [] (mm x R Z Y o A c G g) Q) : pW ns d 125 50 [some (pm_r 3 0), some (pm_i v1)] [] (mm x R Z Y o A c G g) Q := by
  refine b125_50 hR  (fun h1 => ?_) (fun h1 => ?_)
  · skip
    refine b125_56 hR   (fun h2 => ?_) (fun h2 => ?_)
    · skip
      exact b125_104 hR   (k1 h1 h2)
    · skip
      exact (k2 h1 h2)
  · skip
    refine b125_87 hR   (fun h2 => ?_) (fun h2 => ?_)
    · skip
      exact b125_104 hR   (k3 h1 h2)
    · skip
      refine b125_93 hR   (fun h3 => ?_) (fun h3 => ?_)
      · skip
        exact b125_104 hR   (k4 h1 h2 h3)
      · skip
        exact (k5 h1 h2 h3)
set_option maxRecDepth 20000 in
theorem t125_56 (hR : RS R) {v1 : Int32}  (k1 : (nI 8 ≤ A 3 0 3) → Q (.inl none, (mm x R Z Y o A c G g))) (k2 : (¬ (nI 8 ≤ A 3 0 3)) → pW ns d 125 65 [some (pm_r 3 0), some (pm_i v1)] [] (mm x R Z Y o A c G g) Q) : pW ns d 125 56 [some (pm_r 3 0), some (pm_i v1)] [] (mm x R Z Y o A c G g) Q := by
  refine b125_56 hR  (fun h1 => ?_) (fun h1 => ?_)
  · skip
    exact b125_104 hR   (k1 h1)
  · skip
    exact (k2 h1)
set_option maxRecDepth 20000 in
theorem t125_87 (hR : RS R) {v1 : Int32}  (k1 : (v1 < nI 32) → Q (.inl none, (mm x R Z Y o A c G g))) (k2 : (¬ (v1 < nI 32)) → (nI 126 < v1) → Q (.inl none, (mm x R Z Y o A c G g))) (k3 : (¬ (v1 < nI 32)) → (¬ (nI 126 < v1)) → pW ns d 125 99 [some (pm_r 3 0), some (pm_i v1)] [] (mm x R Z Y o A c G g) Q) : pW ns d 125 87 [some (pm_r 3 0), some (pm_i v1)] [] (mm x R Z Y o A c G g) Q := by
  refine b125_87 hR  (fun h1 => ?_) (fun h1 => ?_)
  · skip
    exact b125_104 hR   (k1 h1)
  · skip
    refine b125_93 hR   (fun h2 => ?_) (fun h2 => ?_)
    · skip
      exact b125_104 hR   (k2 h1 h2)
    · skip
      exact (k3 h1 h2)
set_option maxRecDepth 20000 in
theorem t125_93 (hR : RS R) {v1 : Int32}  (k1 : (nI 126 < v1) → Q (.inl none, (mm x R Z Y o A c G g))) (k2 : (¬ (nI 126 < v1)) → pW ns d 125 99 [some (pm_r 3 0), some (pm_i v1)] [] (mm x R Z Y o A c G g) Q) : pW ns d 125 93 [some (pm_r 3 0), some (pm_i v1)] [] (mm x R Z Y o A c G g) Q := by
  refine b125_93 hR  (fun h1 => ?_) (fun h1 => ?_)
  · skip
    exact b125_104 hR   (k1 h1)
  · skip
    exact (k2 h1)
set_option maxRecDepth 20000 in
theorem t125_72 (hR : RS R) {v1 : Int32} {vs0 : Int32}  (k1 : (vs0 ≤ 0) → Q (.inl none, (mm x R Z Y o A c G g))) (k2 : (¬ (vs0 ≤ 0)) → pW ns d 125 75 [some (pm_r 3 0), some (pm_i v1)] [] (mm x R Z Y o A c G g) Q) : pW ns d 125 72 [some (pm_r 3 0), some (pm_i v1)] [pm_i vs0] (mm x R Z Y o A c G g) Q := by
  refine b125_72 hR  (fun h1 => ?_) (fun h1 => ?_)
  · skip
    exact b125_104 hR   (k1 h1)
  · skip
    exact (k2 h1)
/-! 126 JobLayer$Terminal.addToLine -/
set_option maxRecDepth 20000 in
theorem b126_0 (hR : RS R) {v1 : Int32}  {x2 : Nat} {o2 : Int64} {A2 : Nat → Nat → Nat → Int32} {c2 : Nat → Int64} {G2 : Nat → Nat → Int32} {g2 : Nat → Int64} {y : Int32} (hE : pE ns d 103 [pm_r 6 0] (mm x R Z Y o A c G g) (.inl (some (pm_i y)), (mm x2 R Z Y o2 A2 c2 G2 g2))) (k : pW ns d 126 7 [some (pm_r 3 0), some (pm_i v1)] [pm_i y] (mm x2 R Z Y o2 A2 c2 G2 g2) Q) : pW ns d 126 0 [some (pm_r 3 0), some (pm_i v1)] [] (mm x R Z Y o A c G g) Q := by
  refine pW_eq 2 (pc' := 4) (L' := [some (pm_r 3 0), some (pm_i v1)]) (S' := [pm_r 6 0]) (M' := (mm x R Z Y o A c G g)) (fun call n => ?_) ?_
  · refine Eq.trans (b := pm_g (mm x R Z Y o A c G g) 3 0 (pm_go call ns d 126 n 4 [some (pm_r 3 0), some (pm_i v1)] [pm_a (R 3 0 0)] (mm x R Z Y o A c G g))) rfl ?_
    refine (g_ok (f := 3) (by decide) rfl).trans ?_
    exact (congrArg (fun z => pm_go call ns d 126 n 4 [some (pm_r 3 0), some (pm_i v1)] [pm_a z] (mm x R Z Y o A c G g)) (rs_3_0 hR))
  refine pW_call (pc' := 4) (r := []) (L' := [some (pm_r 3 0), some (pm_i v1)]) 1 (fun call n => ?_) hE k
  exact Eq.trans (b := pm_g (mm x R Z Y o A c G g) 6 0 (pm_cl call 126 (pm_go call ns d 126 n) 4 103 [pm_r 6 0] [] [some (pm_r 3 0), some (pm_i v1)] (mm x R Z Y o A c G g))) rfl (g_ok (f := 6) (by decide) rfl)
set_option maxRecDepth 20000 in
theorem b126_7 (hR : RS R) {v1 : Int32} {vs0 : Int32}   (k1 : vs0 ≤ 0 → pW ns d 126 28 [some (pm_r 3 0), some (pm_i v1)] [] (mm x R Z Y o A c G g) Q) (k2 : ¬ (vs0 ≤ 0) → pW ns d 126 10 [some (pm_r 3 0), some (pm_i v1)] [] (mm x R Z Y o A c G g) Q) : pW ns d 126 7 [some (pm_r 3 0), some (pm_i v1)] [pm_i vs0] (mm x R Z Y o A c G g) Q := by
  exact pW_if 1 (c := vs0 ≤ 0) (fun call n => rfl) k1 k2
set_option maxRecDepth 20000 in
theorem b126_28 (hR : RS R) {u0 : Option pm_V} {u1 : Option pm_V}   (k : Q (.inl none, (mm x R Z Y o A c G g))) : pW ns d 126 28 [u0, u1] [] (mm x R Z Y o A c G g) Q := by
  refine pW_ret 1 (fun call n => ?_) k
  rfl
set_option maxRecDepth 20000 in
theorem b126_10 (hR : RS R) {v1 : Int32}  {x2 : Nat} {o2 : Int64} {A2 : Nat → Nat → Nat → Int32} {c2 : Nat → Int64} {G2 : Nat → Nat → Int32} {g2 : Nat → Int64}  (hE : pE ns d 104 [pm_r 6 0, pm_i v1] (mm x R Z Y o A c G g) (.inl (none), (mm x2 R Z Y o2 A2 c2 G2 g2))) (k : pW ns d 126 18 [some (pm_r 3 0), some (pm_i v1)] [] (mm x2 R Z Y o2 A2 c2 G2 g2) Q) : pW ns d 126 10 [some (pm_r 3 0), some (pm_i v1)] [] (mm x R Z Y o A c G g) Q := by
  refine pW_eq 2 (pc' := 14) (L' := [some (pm_r 3 0), some (pm_i v1)]) (S' := [pm_r 6 0]) (M' := (mm x R Z Y o A c G g)) (fun call n => ?_) ?_
  · refine Eq.trans (b := pm_g (mm x R Z Y o A c G g) 3 0 (pm_go call ns d 126 n 14 [some (pm_r 3 0), some (pm_i v1)] [pm_a (R 3 0 0)] (mm x R Z Y o A c G g))) rfl ?_
    refine (g_ok (f := 3) (by decide) rfl).trans ?_
    exact (congrArg (fun z => pm_go call ns d 126 n 14 [some (pm_r 3 0), some (pm_i v1)] [pm_a z] (mm x R Z Y o A c G g)) (rs_3_0 hR))
  refine pW_call (pc' := 15) (r := []) (L' := [some (pm_r 3 0), some (pm_i v1)]) 2 (fun call n => ?_) hE k
  exact Eq.trans (b := pm_g (mm x R Z Y o A c G g) 6 0 (pm_cl call 126 (pm_go call ns d 126 n) 15 104 [pm_r 6 0, pm_i v1] [] [some (pm_r 3 0), some (pm_i v1)] (mm x R Z Y o A c G g))) rfl (g_ok (f := 6) (by decide) rfl)
set_option maxRecDepth 20000 in
theorem b126_18 (hR : RS R) {u1 : Option pm_V}   (k : Q (.inl none, (mm x R Z Y o (pm_u A 3 0 4 ((A 3 0 4) + (nI 1))) c G g))) : pW ns d 126 18 [some (pm_r 3 0), u1] [] (mm x R Z Y o A c G g) Q := by
  refine pW_eq 3 (pc' := 23) (L' := [some (pm_r 3 0), u1]) (S' := [pm_i (A 3 0 4), pm_r 3 0]) (M' := (mm x R Z Y o A c G g)) (fun call n => ?_) ?_
  · refine Eq.trans (b := pm_g (mm x R Z Y o A c G g) 3 0 (pm_go call ns d 126 n 23 [some (pm_r 3 0), u1] [pm_i (A 3 0 4), pm_r 3 0] (mm x R Z Y o A c G g))) rfl ?_
    refine (g_ok (f := 3) (by decide) rfl).trans ?_
    rfl
  refine pW_eq 3 (pc' := 28) (L' := [some (pm_r 3 0), u1]) (S' := []) (M' := (mm x R Z Y o (pm_u A 3 0 4 ((A 3 0 4) + (nI 1))) c G g)) (fun call n => ?_) ?_
  · refine Eq.trans (b := pm_g (mm x R Z Y o A c G g) 3 0 (pm_go call ns d 126 n 28 [some (pm_r 3 0), u1] [] (pm_u (mA Z A G) 3 0 4 ((A 3 0 4) + (nI 1)), mB Y o c g, R, pm_tot, x))) rfl ?_
    refine (g_ok (f := 3) (by decide) rfl).trans ?_
    exact (congrArg (fun z => pm_go call ns d 126 n 28 [some (pm_r 3 0), u1] [] (z, mB Y o c g, R, pm_tot, x)) (uA (by decide)))
  refine pW_ret 1 (fun call n => ?_) k
  rfl
set_option maxRecDepth 20000 in
theorem t126_7 (hR : RS R) {v1 : Int32} {vs0 : Int32}  (k1 : (vs0 ≤ 0) → Q (.inl none, (mm x R Z Y o A c G g))) (k2 : (¬ (vs0 ≤ 0)) → pW ns d 126 10 [some (pm_r 3 0), some (pm_i v1)] [] (mm x R Z Y o A c G g) Q) : pW ns d 126 7 [some (pm_r 3 0), some (pm_i v1)] [pm_i vs0] (mm x R Z Y o A c G g) Q := by
  refine b126_7 hR  (fun h1 => ?_) (fun h1 => ?_)
  · skip
    exact b126_28 hR   (k1 h1)
  · skip
    exact (k2 h1)
/-! 127 JobLayer$Terminal.dropFromLine -/
set_option maxRecDepth 20000 in
theorem b127_0 (hR : RS R) {v1 : Int32}   (k : Q (.inl none, (mm x R Z Y o (pm_u (pm_u A 6 0 1 ((A 6 0 1) - v1)) 3 0 4 (((pm_u A 6 0 1 ((A 6 0 1) - v1)) 3 0 4) - v1)) c G g))) : pW ns d 127 0 [some (pm_r 3 0), some (pm_i v1)] [] (mm x R Z Y o A c G g) Q := by
  refine pW_eq 2 (pc' := 4) (L' := [some (pm_r 3 0), some (pm_i v1)]) (S' := [pm_r 6 0]) (M' := (mm x R Z Y o A c G g)) (fun call n => ?_) ?_
  · refine Eq.trans (b := pm_g (mm x R Z Y o A c G g) 3 0 (pm_go call ns d 127 n 4 [some (pm_r 3 0), some (pm_i v1)] [pm_a (R 3 0 0)] (mm x R Z Y o A c G g))) rfl ?_
    refine (g_ok (f := 3) (by decide) rfl).trans ?_
    exact (congrArg (fun z => pm_go call ns d 127 n 4 [some (pm_r 3 0), some (pm_i v1)] [pm_a z] (mm x R Z Y o A c G g)) (rs_3_0 hR))
  refine pW_eq 2 (pc' := 8) (L' := [some (pm_r 3 0), some (pm_i v1)]) (S' := [pm_i (A 6 0 1), pm_r 6 0]) (M' := (mm x R Z Y o A c G g)) (fun call n => ?_) ?_
  · refine Eq.trans (b := pm_g (mm x R Z Y o A c G g) 6 0 (pm_go call ns d 127 n 8 [some (pm_r 3 0), some (pm_i v1)] [pm_i (A 6 0 1), pm_r 6 0] (mm x R Z Y o A c G g))) rfl ?_
    refine (g_ok (f := 6) (by decide) rfl).trans ?_
    rfl
  refine pW_eq 3 (pc' := 13) (L' := [some (pm_r 3 0), some (pm_i v1)]) (S' := []) (M' := (mm x R Z Y o (pm_u A 6 0 1 ((A 6 0 1) - v1)) c G g)) (fun call n => ?_) ?_
  · refine Eq.trans (b := pm_g (mm x R Z Y o A c G g) 6 0 (pm_go call ns d 127 n 13 [some (pm_r 3 0), some (pm_i v1)] [] (pm_u (mA Z A G) 6 0 1 ((A 6 0 1) - v1), mB Y o c g, R, pm_tot, x))) rfl ?_
    refine (g_ok (f := 6) (by decide) rfl).trans ?_
    exact (congrArg (fun z => pm_go call ns d 127 n 13 [some (pm_r 3 0), some (pm_i v1)] [] (z, mB Y o c g, R, pm_tot, x)) (uA (by decide)))
  refine pW_eq 3 (pc' := 18) (L' := [some (pm_r 3 0), some (pm_i v1)]) (S' := [pm_i ((pm_u A 6 0 1 ((A 6 0 1) - v1)) 3 0 4), pm_r 3 0]) (M' := (mm x R Z Y o (pm_u A 6 0 1 ((A 6 0 1) - v1)) c G g)) (fun call n => ?_) ?_
  · refine Eq.trans (b := pm_g (mm x R Z Y o (pm_u A 6 0 1 ((A 6 0 1) - v1)) c G g) 3 0 (pm_go call ns d 127 n 18 [some (pm_r 3 0), some (pm_i v1)] [pm_i ((pm_u A 6 0 1 ((A 6 0 1) - v1)) 3 0 4), pm_r 3 0] (mm x R Z Y o (pm_u A 6 0 1 ((A 6 0 1) - v1)) c G g))) rfl ?_
    refine (g_ok (f := 3) (by decide) rfl).trans ?_
    rfl
  refine pW_eq 3 (pc' := 23) (L' := [some (pm_r 3 0), some (pm_i v1)]) (S' := []) (M' := (mm x R Z Y o (pm_u (pm_u A 6 0 1 ((A 6 0 1) - v1)) 3 0 4 (((pm_u A 6 0 1 ((A 6 0 1) - v1)) 3 0 4) - v1)) c G g)) (fun call n => ?_) ?_
  · refine Eq.trans (b := pm_g (mm x R Z Y o (pm_u A 6 0 1 ((A 6 0 1) - v1)) c G g) 3 0 (pm_go call ns d 127 n 23 [some (pm_r 3 0), some (pm_i v1)] [] (pm_u (mA Z (pm_u A 6 0 1 ((A 6 0 1) - v1)) G) 3 0 4 (((pm_u A 6 0 1 ((A 6 0 1) - v1)) 3 0 4) - v1), mB Y o c g, R, pm_tot, x))) rfl ?_
    refine (g_ok (f := 3) (by decide) rfl).trans ?_
    exact (congrArg (fun z => pm_go call ns d 127 n 23 [some (pm_r 3 0), some (pm_i v1)] [] (z, mB Y o c g, R, pm_tot, x)) (uA (by decide)))
  refine pW_ret 1 (fun call n => ?_) k
  rfl
/-! 128 JobLayer$Terminal.finishLine -/
set_option maxRecDepth 20000 in
theorem b128_0 (hR : RS R)    (k1 : nI 8 ≤ A 3 0 3 → pW ns d 128 37 [some (pm_r 3 0)] [] (mm x R Z Y o A c G g) Q) (k2 : ¬ (nI 8 ≤ A 3 0 3) → pW ns d 128 9 [some (pm_r 3 0)] [] (mm x R Z Y o A c G g) Q) : pW ns d 128 0 [some (pm_r 3 0)] [] (mm x R Z Y o A c G g) Q := by
  refine pW_eq 2 (pc' := 4) (L' := [some (pm_r 3 0)]) (S' := [pm_i (A 3 0 3)]) (M' := (mm x R Z Y o A c G g)) (fun call n => ?_) ?_
  · refine Eq.trans (b := pm_g (mm x R Z Y o A c G g) 3 0 (pm_go call ns d 128 n 4 [some (pm_r 3 0)] [pm_i (A 3 0 3)] (mm x R Z Y o A c G g))) rfl ?_
    refine (g_ok (f := 3) (by decide) rfl).trans ?_
    rfl
  exact pW_if 2 (c := nI 8 ≤ A 3 0 3) (fun call n => rfl) k1 k2
set_option maxRecDepth 20000 in
theorem b128_37 (hR : RS R) {u0 : Option pm_V}   (k : Q (.inl none, (mm x R Z Y o A c G g))) : pW ns d 128 37 [u0] [] (mm x R Z Y o A c G g) Q := by
  refine pW_ret 1 (fun call n => ?_) k
  rfl
set_option maxRecDepth 20000 in
theorem b128_9 (hR : RS R) {j1 : Nat} (e1 : A 3 0 3 = nI j1) (l1 : j1 < 8)  (k : Q (.inl none, (mm x R Z Y o (pm_u (pm_u (pm_u A 14 0 j1 (A 3 0 4)) 3 0 3 (((pm_u A 14 0 j1 (A 3 0 4)) 3 0 3) + (nI 1))) 3 0 4 (nI 0)) c G g))) : pW ns d 128 9 [some (pm_r 3 0)] [] (mm x R Z Y o A c G g) Q := by
  refine pW_eq 2 (pc' := 13) (L' := [some (pm_r 3 0)]) (S' := [pm_r 14 0]) (M' := (mm x R Z Y o A c G g)) (fun call n => ?_) ?_
  · refine Eq.trans (b := pm_g (mm x R Z Y o A c G g) 3 0 (pm_go call ns d 128 n 13 [some (pm_r 3 0)] [pm_a (R 3 0 1)] (mm x R Z Y o A c G g))) rfl ?_
    refine (g_ok (f := 3) (by decide) rfl).trans ?_
    exact (congrArg (fun z => pm_go call ns d 128 n 13 [some (pm_r 3 0)] [pm_a z] (mm x R Z Y o A c G g)) (rs_3_1 hR))
  refine pW_eq 2 (pc' := 17) (L' := [some (pm_r 3 0)]) (S' := [pm_i (A 3 0 3), pm_r 14 0]) (M' := (mm x R Z Y o A c G g)) (fun call n => ?_) ?_
  · refine Eq.trans (b := pm_g (mm x R Z Y o A c G g) 3 0 (pm_go call ns d 128 n 17 [some (pm_r 3 0)] [pm_i (A 3 0 3), pm_r 14 0] (mm x R Z Y o A c G g))) rfl ?_
    refine (g_ok (f := 3) (by decide) rfl).trans ?_
    rfl
  refine pW_eq 2 (pc' := 21) (L' := [some (pm_r 3 0)]) (S' := [pm_i (A 3 0 4), pm_i (A 3 0 3), pm_r 14 0]) (M' := (mm x R Z Y o A c G g)) (fun call n => ?_) ?_
  · refine Eq.trans (b := pm_g (mm x R Z Y o A c G g) 3 0 (pm_go call ns d 128 n 21 [some (pm_r 3 0)] [pm_i (A 3 0 4), pm_i (A 3 0 3), pm_r 14 0] (mm x R Z Y o A c G g))) rfl ?_
    refine (g_ok (f := 3) (by decide) rfl).trans ?_
    rfl
  refine pW_eq 1 (pc' := 22) (L' := [some (pm_r 3 0)]) (S' := []) (M' := (mm x R Z Y o (pm_u A 14 0 j1 (A 3 0 4)) c G g)) (fun call n => ?_) ?_
  · refine Eq.trans (b := pm_g (mm x R Z Y o A c G g) 14 0 (pm_ix (A 3 0 3) 8 (fun jx => pm_go call ns d 128 n 22 [some (pm_r 3 0)] [] (pm_u (mA Z A G) 14 0 jx (A 3 0 4), mB Y o c g, R, pm_tot, x)))) rfl ?_
    refine (g_ok (f := 14) (by decide) rfl).trans ?_
    refine (ix_ok (j := j1) e1 l1 (by decide)).trans ?_
    exact (congrArg (fun z => pm_go call ns d 128 n 22 [some (pm_r 3 0)] [] (z, mB Y o c g, R, pm_tot, x)) (uA (by decide)))
  refine pW_eq 3 (pc' := 27) (L' := [some (pm_r 3 0)]) (S' := [pm_i ((pm_u A 14 0 j1 (A 3 0 4)) 3 0 3), pm_r 3 0]) (M' := (mm x R Z Y o (pm_u A 14 0 j1 (A 3 0 4)) c G g)) (fun call n => ?_) ?_
  · refine Eq.trans (b := pm_g (mm x R Z Y o (pm_u A 14 0 j1 (A 3 0 4)) c G g) 3 0 (pm_go call ns d 128 n 27 [some (pm_r 3 0)] [pm_i ((pm_u A 14 0 j1 (A 3 0 4)) 3 0 3), pm_r 3 0] (mm x R Z Y o (pm_u A 14 0 j1 (A 3 0 4)) c G g))) rfl ?_
    refine (g_ok (f := 3) (by decide) rfl).trans ?_
    rfl
  refine pW_eq 3 (pc' := 32) (L' := [some (pm_r 3 0)]) (S' := []) (M' := (mm x R Z Y o (pm_u (pm_u A 14 0 j1 (A 3 0 4)) 3 0 3 (((pm_u A 14 0 j1 (A 3 0 4)) 3 0 3) + (nI 1))) c G g)) (fun call n => ?_) ?_
  · refine Eq.trans (b := pm_g (mm x R Z Y o (pm_u A 14 0 j1 (A 3 0 4)) c G g) 3 0 (pm_go call ns d 128 n 32 [some (pm_r 3 0)] [] (pm_u (mA Z (pm_u A 14 0 j1 (A 3 0 4)) G) 3 0 3 (((pm_u A 14 0 j1 (A 3 0 4)) 3 0 3) + (nI 1)), mB Y o c g, R, pm_tot, x))) rfl ?_
    refine (g_ok (f := 3) (by decide) rfl).trans ?_
    exact (congrArg (fun z => pm_go call ns d 128 n 32 [some (pm_r 3 0)] [] (z, mB Y o c g, R, pm_tot, x)) (uA (by decide)))
  refine pW_eq 3 (pc' := 37) (L' := [some (pm_r 3 0)]) (S' := []) (M' := (mm x R Z Y o (pm_u (pm_u (pm_u A 14 0 j1 (A 3 0 4)) 3 0 3 (((pm_u A 14 0 j1 (A 3 0 4)) 3 0 3) + (nI 1))) 3 0 4 (nI 0)) c G g)) (fun call n => ?_) ?_
  · refine Eq.trans (b := pm_g (mm x R Z Y o (pm_u (pm_u A 14 0 j1 (A 3 0 4)) 3 0 3 (((pm_u A 14 0 j1 (A 3 0 4)) 3 0 3) + (nI 1))) c G g) 3 0 (pm_go call ns d 128 n 37 [some (pm_r 3 0)] [] (pm_u (mA Z (pm_u (pm_u A 14 0 j1 (A 3 0 4)) 3 0 3 (((pm_u A 14 0 j1 (A 3 0 4)) 3 0 3) + (nI 1))) G) 3 0 4 (nI 0), mB Y o c g, R, pm_tot, x))) rfl ?_
    refine (g_ok (f := 3) (by decide) rfl).trans ?_
    exact (congrArg (fun z => pm_go call ns d 128 n 37 [some (pm_r 3 0)] [] (z, mB Y o c g, R, pm_tot, x)) (uA (by decide)))
  refine pW_ret 1 (fun call n => ?_) k
  rfl
set_option maxRecDepth 20000 in
theorem t128_0 (hR : RS R)   (k1 : (nI 8 ≤ A 3 0 3) → Q (.inl none, (mm x R Z Y o A c G g))) (k2 : (¬ (nI 8 ≤ A 3 0 3)) → pW ns d 128 9 [some (pm_r 3 0)] [] (mm x R Z Y o A c G g) Q) : pW ns d 128 0 [some (pm_r 3 0)] [] (mm x R Z Y o A c G g) Q := by
  refine b128_0 hR  (fun h1 => ?_) (fun h1 => ?_)
  · skip
    exact b128_37 hR   (k1 h1)
  · skip
    exact (k2 h1)
/-! 129 JobLayer$Terminal.dropAllLines -/
set_option maxRecDepth 20000 in
theorem b129_0 (hR : RS R)    (k : Q (.inl none, (mm x R Z Y o (pm_u (pm_u (pm_u A 6 0 1 (nI 0)) 3 0 3 (nI 0)) 3 0 4 (nI 0)) c G g))) : pW ns d 129 0 [some (pm_r 3 0)] [] (mm x R Z Y o A c G g) Q := by
  refine pW_eq 2 (pc' := 4) (L' := [some (pm_r 3 0)]) (S' := [pm_r 6 0]) (M' := (mm x R Z Y o A c G g)) (fun call n => ?_) ?_
  · refine Eq.trans (b := pm_g (mm x R Z Y o A c G g) 3 0 (pm_go call ns d 129 n 4 [some (pm_r 3 0)] [pm_a (R 3 0 0)] (mm x R Z Y o A c G g))) rfl ?_
    refine (g_ok (f := 3) (by decide) rfl).trans ?_
    exact (congrArg (fun z => pm_go call ns d 129 n 4 [some (pm_r 3 0)] [pm_a z] (mm x R Z Y o A c G g)) (rs_3_0 hR))
  refine pW_eq 2 (pc' := 8) (L' := [some (pm_r 3 0)]) (S' := []) (M' := (mm x R Z Y o (pm_u A 6 0 1 (nI 0)) c G g)) (fun call n => ?_) ?_
  · refine Eq.trans (b := pm_g (mm x R Z Y o A c G g) 6 0 (pm_go call ns d 129 n 8 [some (pm_r 3 0)] [] (pm_u (mA Z A G) 6 0 1 (nI 0), mB Y o c g, R, pm_tot, x))) rfl ?_
    refine (g_ok (f := 6) (by decide) rfl).trans ?_
    exact (congrArg (fun z => pm_go call ns d 129 n 8 [some (pm_r 3 0)] [] (z, mB Y o c g, R, pm_tot, x)) (uA (by decide)))
  refine pW_eq 3 (pc' := 13) (L' := [some (pm_r 3 0)]) (S' := []) (M' := (mm x R Z Y o (pm_u (pm_u A 6 0 1 (nI 0)) 3 0 3 (nI 0)) c G g)) (fun call n => ?_) ?_
  · refine Eq.trans (b := pm_g (mm x R Z Y o (pm_u A 6 0 1 (nI 0)) c G g) 3 0 (pm_go call ns d 129 n 13 [some (pm_r 3 0)] [] (pm_u (mA Z (pm_u A 6 0 1 (nI 0)) G) 3 0 3 (nI 0), mB Y o c g, R, pm_tot, x))) rfl ?_
    refine (g_ok (f := 3) (by decide) rfl).trans ?_
    exact (congrArg (fun z => pm_go call ns d 129 n 13 [some (pm_r 3 0)] [] (z, mB Y o c g, R, pm_tot, x)) (uA (by decide)))
  refine pW_eq 3 (pc' := 18) (L' := [some (pm_r 3 0)]) (S' := []) (M' := (mm x R Z Y o (pm_u (pm_u (pm_u A 6 0 1 (nI 0)) 3 0 3 (nI 0)) 3 0 4 (nI 0)) c G g)) (fun call n => ?_) ?_
  · refine Eq.trans (b := pm_g (mm x R Z Y o (pm_u (pm_u A 6 0 1 (nI 0)) 3 0 3 (nI 0)) c G g) 3 0 (pm_go call ns d 129 n 18 [some (pm_r 3 0)] [] (pm_u (mA Z (pm_u (pm_u A 6 0 1 (nI 0)) 3 0 3 (nI 0)) G) 3 0 4 (nI 0), mB Y o c g, R, pm_tot, x))) rfl ?_
    refine (g_ok (f := 3) (by decide) rfl).trans ?_
    exact (congrArg (fun z => pm_go call ns d 129 n 18 [some (pm_r 3 0)] [] (z, mB Y o c g, R, pm_tot, x)) (uA (by decide)))
  refine pW_ret 1 (fun call n => ?_) k
  rfl
/-! 130 JobLayer$Terminal.moveFromFirstLine -/
set_option maxRecDepth 20000 in
theorem b130_0 (hR : RS R) {v1 : Int32} {i2 : Nat} {u3 : Option pm_V} (q2 : i2 < 8) {x2 : Nat} {o2 : Int64} {A2 : Nat → Nat → Nat → Int32} {c2 : Nat → Int64} {G2 : Nat → Nat → Int32} {g2 : Nat → Int64} {y : Int32} (hE : pE ns d 105 [pm_r 6 0, pm_i (if A 14 0 0 < v1 then A 14 0 0 else v1), pm_r 11 i2] (mm x R Z Y o A c G g) (.inl (some (pm_i y)), (mm x2 R Z Y o2 A2 c2 G2 g2))) (k : pW ns d 130 18 [some (pm_r 3 0), some (pm_i v1), some (pm_r 11 i2), u3] [pm_i y] (mm x2 R Z Y o2 A2 c2 G2 g2) Q) : pW ns d 130 0 [some (pm_r 3 0), some (pm_i v1), some (pm_r 11 i2), u3] [] (mm x R Z Y o A c G g) Q := by
  refine pW_eq 2 (pc' := 4) (L' := [some (pm_r 3 0), some (pm_i v1), some (pm_r 11 i2), u3]) (S' := [pm_r 6 0]) (M' := (mm x R Z Y o A c G g)) (fun call n => ?_) ?_
  · refine Eq.trans (b := pm_g (mm x R Z Y o A c G g) 3 0 (pm_go call ns d 130 n 4 [some (pm_r 3 0), some (pm_i v1), some (pm_r 11 i2), u3] [pm_a (R 3 0 0)] (mm x R Z Y o A c G g))) rfl ?_
    refine (g_ok (f := 3) (by decide) rfl).trans ?_
    exact (congrArg (fun z => pm_go call ns d 130 n 4 [some (pm_r 3 0), some (pm_i v1), some (pm_r 11 i2), u3] [pm_a z] (mm x R Z Y o A c G g)) (rs_3_0 hR))
  refine pW_eq 3 (pc' := 9) (L' := [some (pm_r 3 0), some (pm_i v1), some (pm_r 11 i2), u3]) (S' := [pm_r 14 0, pm_i v1, pm_r 6 0]) (M' := (mm x R Z Y o A c G g)) (fun call n => ?_) ?_
  · refine Eq.trans (b := pm_g (mm x R Z Y o A c G g) 3 0 (pm_go call ns d 130 n 9 [some (pm_r 3 0), some (pm_i v1), some (pm_r 11 i2), u3] [pm_a (R 3 0 1), pm_i v1, pm_r 6 0] (mm x R Z Y o A c G g))) rfl ?_
    refine (g_ok (f := 3) (by decide) rfl).trans ?_
    exact (congrArg (fun z => pm_go call ns d 130 n 9 [some (pm_r 3 0), some (pm_i v1), some (pm_r 11 i2), u3] [pm_a z, pm_i v1, pm_r 6 0] (mm x R Z Y o A c G g)) (rs_3_1 hR))
  refine pW_eq 2 (pc' := 11) (L' := [some (pm_r 3 0), some (pm_i v1), some (pm_r 11 i2), u3]) (S' := [pm_i (A 14 0 0), pm_i v1, pm_r 6 0]) (M' := (mm x R Z Y o A c G g)) (fun call n => ?_) ?_
  · refine Eq.trans (b := pm_g (mm x R Z Y o A c G g) 14 0 (pm_ix (nI 0) 8 (fun jx => pm_go call ns d 130 n 11 [some (pm_r 3 0), some (pm_i v1), some (pm_r 11 i2), u3] [pm_i (A 14 0 jx), pm_i v1, pm_r 6 0] (mm x R Z Y o A c G g)))) rfl ?_
    refine (g_ok (f := 14) (by decide) rfl).trans ?_
    refine (ix_ok (j := 0) rfl (by decide) (by decide)).trans ?_
    rfl
  refine pW_call (pc' := 15) (r := []) (L' := [some (pm_r 3 0), some (pm_i v1), some (pm_r 11 i2), u3]) 3 (fun call n => ?_) hE k
  exact Eq.trans (b := pm_g (mm x R Z Y o A c G g) 6 0 (pm_cl call 130 (pm_go call ns d 130 n) 15 105 [pm_r 6 0, pm_i (if A 14 0 0 < v1 then A 14 0 0 else v1), pm_r 11 i2] [] [some (pm_r 3 0), some (pm_i v1), some (pm_r 11 i2), u3] (mm x R Z Y o A c G g))) rfl (g_ok (f := 6) (by decide) rfl)
set_option maxRecDepth 20000 in
theorem b130_18 (hR : RS R) {u1 : Option pm_V} {i2 : Nat} {u3 : Option pm_V} {vs0 : Int32} (q2 : i2 < 8)  (k1 : (pm_u A 14 0 0 ((A 14 0 0) - vs0)) 14 0 0 = 0 → pW ns d 130 38 [some (pm_r 3 0), u1, some (pm_r 11 i2), some (pm_i vs0)] [] (mm x R Z Y o (pm_u A 14 0 0 ((A 14 0 0) - vs0)) c G g) Q) (k2 : ¬ ((pm_u A 14 0 0 ((A 14 0 0) - vs0)) 14 0 0 = 0) → pW ns d 130 42 [some (pm_r 3 0), u1, some (pm_r 11 i2), some (pm_i vs0)] [] (mm x R Z Y o (pm_u A 14 0 0 ((A 14 0 0) - vs0)) c G g) Q) : pW ns d 130 18 [some (pm_r 3 0), u1, some (pm_r 11 i2), u3] [pm_i vs0] (mm x R Z Y o A c G g) Q := by
  refine pW_eq 3 (pc' := 23) (L' := [some (pm_r 3 0), u1, some (pm_r 11 i2), some (pm_i vs0)]) (S' := [pm_r 14 0]) (M' := (mm x R Z Y o A c G g)) (fun call n => ?_) ?_
  · refine Eq.trans (b := pm_g (mm x R Z Y o A c G g) 3 0 (pm_go call ns d 130 n 23 [some (pm_r 3 0), u1, some (pm_r 11 i2), some (pm_i vs0)] [pm_a (R 3 0 1)] (mm x R Z Y o A c G g))) rfl ?_
    refine (g_ok (f := 3) (by decide) rfl).trans ?_
    exact (congrArg (fun z => pm_go call ns d 130 n 23 [some (pm_r 3 0), u1, some (pm_r 11 i2), some (pm_i vs0)] [pm_a z] (mm x R Z Y o A c G g)) (rs_3_1 hR))
  refine pW_eq 3 (pc' := 26) (L' := [some (pm_r 3 0), u1, some (pm_r 11 i2), some (pm_i vs0)]) (S' := [pm_i (A 14 0 0), pm_i (nI 0), pm_r 14 0]) (M' := (mm x R Z Y o A c G g)) (fun call n => ?_) ?_
  · refine Eq.trans (b := pm_g (mm x R Z Y o A c G g) 14 0 (pm_ix (nI 0) 8 (fun jx => pm_go call ns d 130 n 26 [some (pm_r 3 0), u1, some (pm_r 11 i2), some (pm_i vs0)] [pm_i (A 14 0 jx), pm_i (nI 0), pm_r 14 0] (mm x R Z Y o A c G g)))) rfl ?_
    refine (g_ok (f := 14) (by decide) rfl).trans ?_
    refine (ix_ok (j := 0) rfl (by decide) (by decide)).trans ?_
    rfl
  refine pW_eq 3 (pc' := 29) (L' := [some (pm_r 3 0), u1, some (pm_r 11 i2), some (pm_i vs0)]) (S' := []) (M' := (mm x R Z Y o (pm_u A 14 0 0 ((A 14 0 0) - vs0)) c G g)) (fun call n => ?_) ?_
  · refine Eq.trans (b := pm_g (mm x R Z Y o A c G g) 14 0 (pm_ix (nI 0) 8 (fun jx => pm_go call ns d 130 n 29 [some (pm_r 3 0), u1, some (pm_r 11 i2), some (pm_i vs0)] [] (pm_u (mA Z A G) 14 0 jx ((A 14 0 0) - vs0), mB Y o c g, R, pm_tot, x)))) rfl ?_
    refine (g_ok (f := 14) (by decide) rfl).trans ?_
    refine (ix_ok (j := 0) rfl (by decide) (by decide)).trans ?_
    exact (congrArg (fun z => pm_go call ns d 130 n 29 [some (pm_r 3 0), u1, some (pm_r 11 i2), some (pm_i vs0)] [] (z, mB Y o c g, R, pm_tot, x)) (uA (by decide)))
  refine pW_eq 2 (pc' := 33) (L' := [some (pm_r 3 0), u1, some (pm_r 11 i2), some (pm_i vs0)]) (S' := [pm_r 14 0]) (M' := (mm x R Z Y o (pm_u A 14 0 0 ((A 14 0 0) - vs0)) c G g)) (fun call n => ?_) ?_
  · refine Eq.trans (b := pm_g (mm x R Z Y o (pm_u A 14 0 0 ((A 14 0 0) - vs0)) c G g) 3 0 (pm_go call ns d 130 n 33 [some (pm_r 3 0), u1, some (pm_r 11 i2), some (pm_i vs0)] [pm_a (R 3 0 1)] (mm x R Z Y o (pm_u A 14 0 0 ((A 14 0 0) - vs0)) c G g))) rfl ?_
    refine (g_ok (f := 3) (by decide) rfl).trans ?_
    exact (congrArg (fun z => pm_go call ns d 130 n 33 [some (pm_r 3 0), u1, some (pm_r 11 i2), some (pm_i vs0)] [pm_a z] (mm x R Z Y o (pm_u A 14 0 0 ((A 14 0 0) - vs0)) c G g)) (rs_3_1 hR))
  refine pW_eq 2 (pc' := 35) (L' := [some (pm_r 3 0), u1, some (pm_r 11 i2), some (pm_i vs0)]) (S' := [pm_i ((pm_u A 14 0 0 ((A 14 0 0) - vs0)) 14 0 0)]) (M' := (mm x R Z Y o (pm_u A 14 0 0 ((A 14 0 0) - vs0)) c G g)) (fun call n => ?_) ?_
  · refine Eq.trans (b := pm_g (mm x R Z Y o (pm_u A 14 0 0 ((A 14 0 0) - vs0)) c G g) 14 0 (pm_ix (nI 0) 8 (fun jx => pm_go call ns d 130 n 35 [some (pm_r 3 0), u1, some (pm_r 11 i2), some (pm_i vs0)] [pm_i ((pm_u A 14 0 0 ((A 14 0 0) - vs0)) 14 0 jx)] (mm x R Z Y o (pm_u A 14 0 0 ((A 14 0 0) - vs0)) c G g)))) rfl ?_
    refine (g_ok (f := 14) (by decide) rfl).trans ?_
    refine (ix_ok (j := 0) rfl (by decide) (by decide)).trans ?_
    rfl
  exact pW_if 1 (c := (pm_u A 14 0 0 ((A 14 0 0) - vs0)) 14 0 0 = 0) (fun call n => rfl) k1 k2
set_option maxRecDepth 20000 in
theorem b130_38 (hR : RS R) {u1 : Option pm_V} {u2 : Option pm_V} {v3 : Int32}  {x2 : Nat} {o2 : Int64} {A2 : Nat → Nat → Nat → Int32} {c2 : Nat → Int64} {G2 : Nat → Nat → Int32} {g2 : Nat → Int64}  (hE : pE ns d 131 [pm_r 3 0] (mm x R Z Y o A c G g) (.inl (none), (mm x2 R Z Y o2 A2 c2 G2 g2))) (k : pW ns d 130 42 [some (pm_r 3 0), u1, u2, some (pm_i v3)] [] (mm x2 R Z Y o2 A2 c2 G2 g2) Q) : pW ns d 130 38 [some (pm_r 3 0), u1, u2, some (pm_i v3)] [] (mm x R Z Y o A c G g) Q := by
  refine pW_call (pc' := 39) (r := []) (L' := [some (pm_r 3 0), u1, u2, some (pm_i v3)]) 2 (fun call n => ?_) hE k
  exact Eq.trans (b := pm_g (mm x R Z Y o A c G g) 3 0 (pm_cl call 130 (pm_go call ns d 130 n) 39 131 [pm_r 3 0] [] [some (pm_r 3 0), u1, u2, some (pm_i v3)] (mm x R Z Y o A c G g))) rfl (g_ok (f := 3) (by decide) rfl)
set_option maxRecDepth 20000 in
theorem b130_42 (hR : RS R) {u0 : Option pm_V} {u1 : Option pm_V} {u2 : Option pm_V} {v3 : Int32}   (k : Q (.inl (some (pm_i v3)), (mm x R Z Y o A c G g))) : pW ns d 130 42 [u0, u1, u2, some (pm_i v3)] [] (mm x R Z Y o A c G g) Q := by
  refine pW_ret 2 (fun call n => ?_) k
  rfl
set_option maxRecDepth 20000 in
theorem t130_18 (hR : RS R) {u1 : Option pm_V} {i2 : Nat} {u3 : Option pm_V} {vs0 : Int32} (q2 : i2 < 8) (k1 : ((pm_u A 14 0 0 ((A 14 0 0) - vs0)) 14 0 0 = 0) → pW ns d 130 38 [some (pm_r 3 0), u1, some (pm_r 11 i2), some (pm_i vs0)] [] (mm x R Z Y o (pm_u A 14 0 0 ((A 14 0 0) - vs0)) c G g) Q) (k2 : (¬ ((pm_u A 14 0 0 ((A 14 0 0) - vs0)) 14 0 0 = 0)) → Q (.inl (some (pm_i vs0)), (mm x R Z Y o (pm_u A 14 0 0 ((A 14 0 0) - vs0)) c G g))) : pW ns d 130 18 [some (pm_r 3 0), u1, some (pm_r 11 i2), u3] [pm_i vs0] (mm x R Z Y o A c G g) Q := by
  refine b130_18 hR q2 (fun h1 => ?_) (fun h1 => ?_)
  · skip
    exact (k1 h1)
  · skip
    exact b130_42 hR   (k2 h1)
/-! 131 JobLayer$Terminal.dropFirstLine -/
set_option maxRecDepth 20000 in
theorem b131_0 (hR : RS R) {u1 : Option pm_V}   (k : pW ns d 131 2 [some (pm_r 3 0), some (pm_i (nI 1))] [] (mm x R Z Y o A c G g) Q) : pW ns d 131 0 [some (pm_r 3 0), u1] [] (mm x R Z Y o A c G g) Q := by
  exact pW_eq 2 (fun call n => rfl) k
set_option maxRecDepth 20000 in
theorem b131_2 (hR : RS R) {v1 : Int32}   (k1 : A 3 0 3 ≤ v1 → pW ns d 131 30 [some (pm_r 3 0), some (pm_i v1)] [] (mm x R Z Y o A c G g) Q) (k2 : ¬ (A 3 0 3 ≤ v1) → pW ns d 131 10 [some (pm_r 3 0), some (pm_i v1)] [] (mm x R Z Y o A c G g) Q) : pW ns d 131 2 [some (pm_r 3 0), some (pm_i v1)] [] (mm x R Z Y o A c G g) Q := by
  refine pW_eq 3 (pc' := 7) (L' := [some (pm_r 3 0), some (pm_i v1)]) (S' := [pm_i (A 3 0 3), pm_i v1]) (M' := (mm x R Z Y o A c G g)) (fun call n => ?_) ?_
  · refine Eq.trans (b := pm_g (mm x R Z Y o A c G g) 3 0 (pm_go call ns d 131 n 7 [some (pm_r 3 0), some (pm_i v1)] [pm_i (A 3 0 3), pm_i v1] (mm x R Z Y o A c G g))) rfl ?_
    refine (g_ok (f := 3) (by decide) rfl).trans ?_
    rfl
  exact pW_if 1 (c := A 3 0 3 ≤ v1) (fun call n => rfl) k1 k2
set_option maxRecDepth 20000 in
theorem b131_30 (hR : RS R) {u1 : Option pm_V}   (k : Q (.inl none, (mm x R Z Y o (pm_u A 3 0 3 ((A 3 0 3) - (nI 1))) c G g))) : pW ns d 131 30 [some (pm_r 3 0), u1] [] (mm x R Z Y o A c G g) Q := by
  refine pW_eq 3 (pc' := 35) (L' := [some (pm_r 3 0), u1]) (S' := [pm_i (A 3 0 3), pm_r 3 0]) (M' := (mm x R Z Y o A c G g)) (fun call n => ?_) ?_
  · refine Eq.trans (b := pm_g (mm x R Z Y o A c G g) 3 0 (pm_go call ns d 131 n 35 [some (pm_r 3 0), u1] [pm_i (A 3 0 3), pm_r 3 0] (mm x R Z Y o A c G g))) rfl ?_
    refine (g_ok (f := 3) (by decide) rfl).trans ?_
    rfl
  refine pW_eq 3 (pc' := 40) (L' := [some (pm_r 3 0), u1]) (S' := []) (M' := (mm x R Z Y o (pm_u A 3 0 3 ((A 3 0 3) - (nI 1))) c G g)) (fun call n => ?_) ?_
  · refine Eq.trans (b := pm_g (mm x R Z Y o A c G g) 3 0 (pm_go call ns d 131 n 40 [some (pm_r 3 0), u1] [] (pm_u (mA Z A G) 3 0 3 ((A 3 0 3) - (nI 1)), mB Y o c g, R, pm_tot, x))) rfl ?_
    refine (g_ok (f := 3) (by decide) rfl).trans ?_
    exact (congrArg (fun z => pm_go call ns d 131 n 40 [some (pm_r 3 0), u1] [] (z, mB Y o c g, R, pm_tot, x)) (uA (by decide)))
  refine pW_ret 1 (fun call n => ?_) k
  rfl
set_option maxRecDepth 20000 in
theorem b131_10 (hR : RS R) {v1 : Int32} {j1 : Nat} {j2 : Nat} (e1 : v1 = nI j1) (l1 : j1 < 8) (e2 : v1 - (nI 1) = nI j2) (l2 : j2 < 8)  (k : pW ns d 131 2 [some (pm_r 3 0), some (pm_i (v1 + (nI 1)))] [] (mm x R Z Y o (pm_u A 14 0 j2 (A 14 0 j1)) c G g) Q) : pW ns d 131 10 [some (pm_r 3 0), some (pm_i v1)] [] (mm x R Z Y o A c G g) Q := by
  refine pW_eq 2 (pc' := 14) (L' := [some (pm_r 3 0), some (pm_i v1)]) (S' := [pm_r 14 0]) (M' := (mm x R Z Y o A c G g)) (fun call n => ?_) ?_
  · refine Eq.trans (b := pm_g (mm x R Z Y o A c G g) 3 0 (pm_go call ns d 131 n 14 [some (pm_r 3 0), some (pm_i v1)] [pm_a (R 3 0 1)] (mm x R Z Y o A c G g))) rfl ?_
    refine (g_ok (f := 3) (by decide) rfl).trans ?_
    exact (congrArg (fun z => pm_go call ns d 131 n 14 [some (pm_r 3 0), some (pm_i v1)] [pm_a z] (mm x R Z Y o A c G g)) (rs_3_1 hR))
  refine pW_eq 5 (pc' := 21) (L' := [some (pm_r 3 0), some (pm_i v1)]) (S' := [pm_r 14 0, pm_i (v1 - (nI 1)), pm_r 14 0]) (M' := (mm x R Z Y o A c G g)) (fun call n => ?_) ?_
  · refine Eq.trans (b := pm_g (mm x R Z Y o A c G g) 3 0 (pm_go call ns d 131 n 21 [some (pm_r 3 0), some (pm_i v1)] [pm_a (R 3 0 1), pm_i (v1 - (nI 1)), pm_r 14 0] (mm x R Z Y o A c G g))) rfl ?_
    refine (g_ok (f := 3) (by decide) rfl).trans ?_
    exact (congrArg (fun z => pm_go call ns d 131 n 21 [some (pm_r 3 0), some (pm_i v1)] [pm_a z, pm_i (v1 - (nI 1)), pm_r 14 0] (mm x R Z Y o A c G g)) (rs_3_1 hR))
  refine pW_eq 2 (pc' := 23) (L' := [some (pm_r 3 0), some (pm_i v1)]) (S' := [pm_i (A 14 0 j1), pm_i (v1 - (nI 1)), pm_r 14 0]) (M' := (mm x R Z Y o A c G g)) (fun call n => ?_) ?_
  · refine Eq.trans (b := pm_g (mm x R Z Y o A c G g) 14 0 (pm_ix (v1) 8 (fun jx => pm_go call ns d 131 n 23 [some (pm_r 3 0), some (pm_i v1)] [pm_i (A 14 0 jx), pm_i (v1 - (nI 1)), pm_r 14 0] (mm x R Z Y o A c G g)))) rfl ?_
    refine (g_ok (f := 14) (by decide) rfl).trans ?_
    refine (ix_ok (j := j1) e1 l1 (by decide)).trans ?_
    rfl
  refine pW_eq 1 (pc' := 24) (L' := [some (pm_r 3 0), some (pm_i v1)]) (S' := []) (M' := (mm x R Z Y o (pm_u A 14 0 j2 (A 14 0 j1)) c G g)) (fun call n => ?_) ?_
  · refine Eq.trans (b := pm_g (mm x R Z Y o A c G g) 14 0 (pm_ix (v1 - (nI 1)) 8 (fun jx => pm_go call ns d 131 n 24 [some (pm_r 3 0), some (pm_i v1)] [] (pm_u (mA Z A G) 14 0 jx (A 14 0 j1), mB Y o c g, R, pm_tot, x)))) rfl ?_
    refine (g_ok (f := 14) (by decide) rfl).trans ?_
    refine (ix_ok (j := j2) e2 l2 (by decide)).trans ?_
    exact (congrArg (fun z => pm_go call ns d 131 n 24 [some (pm_r 3 0), some (pm_i v1)] [] (z, mB Y o c g, R, pm_tot, x)) (uA (by decide)))
  exact pW_eq 2 (fun call n => rfl) k
set_option maxRecDepth 20000 in
theorem t131_2 (hR : RS R) {v1 : Int32}  (k1 : (A 3 0 3 ≤ v1) → Q (.inl none, (mm x R Z Y o (pm_u A 3 0 3 ((A 3 0 3) - (nI 1))) c G g))) (k2 : (¬ (A 3 0 3 ≤ v1)) → pW ns d 131 10 [some (pm_r 3 0), some (pm_i v1)] [] (mm x R Z Y o A c G g) Q) : pW ns d 131 2 [some (pm_r 3 0), some (pm_i v1)] [] (mm x R Z Y o A c G g) Q := by
  refine b131_2 hR  (fun h1 => ?_) (fun h1 => ?_)
  · skip
    exact b131_30 hR   (k1 h1)
  · skip
    exact (k2 h1)
end BLK
