/-! @70.wp@ blocks, printed by program (wip/whole/gen/blk.py) -/
section BLK
variable {ns d x : Nat} {R : Nat → Nat → Nat → Option (Nat × Nat)} {Z A : Nat → Nat → Nat → Int32} {Y : Nat → Nat → Nat → Int64} {o : Int64} {c g : Nat → Int64} {G : Nat → Nat → Int32} {Q : pm_O × pm_M → Prop}
/-! 63 JobLayerModel.comesToParty -/
set_option maxRecDepth 20000 in
theorem b63_0 (hR : RS R) {v1 : Int32} {v2 : Int32} {u3 : Option pm_V}   (k : pW ns d 63 2 [some (pm_r 20 0), some (pm_i v1), some (pm_i v2), some (pm_i (nI 0))] [] (mm x R Z Y o A c G g) Q) : pW ns d 63 0 [some (pm_r 20 0), some (pm_i v1), some (pm_i v2), u3] [] (mm x R Z Y o A c G g) Q := by
  exact pW_eq 2 (fun call n => rfl) k
set_option maxRecDepth 20000 in
theorem b63_2 (hR : RS R) {v1 : Int32} {v2 : Int32} {v3 : Int32}   (k1 : nI 8 ≤ v3 → pW ns d 63 38 [some (pm_r 20 0), some (pm_i v1), some (pm_i v2), some (pm_i v3)] [] (mm x R Z Y o A c G g) Q) (k2 : ¬ (nI 8 ≤ v3) → pW ns d 63 8 [some (pm_r 20 0), some (pm_i v1), some (pm_i v2), some (pm_i v3)] [] (mm x R Z Y o A c G g) Q) : pW ns d 63 2 [some (pm_r 20 0), some (pm_i v1), some (pm_i v2), some (pm_i v3)] [] (mm x R Z Y o A c G g) Q := by
  exact pW_if 3 (c := nI 8 ≤ v3) (fun call n => rfl) k1 k2
set_option maxRecDepth 20000 in
theorem b63_38 (hR : RS R) {u0 : Option pm_V} {u1 : Option pm_V} {u2 : Option pm_V} {u3 : Option pm_V}   (k : Q (.inl none, (mm x R Z Y o A c G g))) : pW ns d 63 38 [u0, u1, u2, u3] [] (mm x R Z Y o A c G g) Q := by
  refine pW_ret 1 (fun call n => ?_) k
  rfl
set_option maxRecDepth 20000 in
theorem b63_8 (hR : RS R) {v1 : Int32} {v2 : Int32} {v3 : Int32}  {x2 : Nat} {o2 : Int64} {A2 : Nat → Nat → Nat → Int32} {c2 : Nat → Int64} {G2 : Nat → Nat → Int32} {g2 : Nat → Int64} {y : Int32} (hE : pE ns d 48 [pm_r 20 0, pm_i v3] (mm x R Z Y o A c G g) (.inl (some (pm_i y)), (mm x2 R Z Y o2 A2 c2 G2 g2))) (k : pW ns d 63 13 [some (pm_r 20 0), some (pm_i v1), some (pm_i v2), some (pm_i v3)] [pm_i y] (mm x2 R Z Y o2 A2 c2 G2 g2) Q) : pW ns d 63 8 [some (pm_r 20 0), some (pm_i v1), some (pm_i v2), some (pm_i v3)] [] (mm x R Z Y o A c G g) Q := by
  refine pW_call (pc' := 10) (r := []) (L' := [some (pm_r 20 0), some (pm_i v1), some (pm_i v2), some (pm_i v3)]) 3 (fun call n => ?_) hE k
  exact Eq.trans (b := pm_g (mm x R Z Y o A c G g) 20 0 (pm_cl call 63 (pm_go call ns d 63 n) 10 48 [pm_r 20 0, pm_i v3] [] [some (pm_r 20 0), some (pm_i v1), some (pm_i v2), some (pm_i v3)] (mm x R Z Y o A c G g))) rfl (g_ok (f := 20) (by decide) rfl)
set_option maxRecDepth 20000 in
theorem b63_13 (hR : RS R) {v1 : Int32} {v2 : Int32} {v3 : Int32} {vs0 : Int32}   (k1 : vs0 = 0 → pW ns d 63 32 [some (pm_r 20 0), some (pm_i v1), some (pm_i v2), some (pm_i v3)] [] (mm x R Z Y o A c G g) Q) (k2 : ¬ (vs0 = 0) → pW ns d 63 16 [some (pm_r 20 0), some (pm_i v1), some (pm_i v2), some (pm_i v3)] [] (mm x R Z Y o A c G g) Q) : pW ns d 63 13 [some (pm_r 20 0), some (pm_i v1), some (pm_i v2), some (pm_i v3)] [pm_i vs0] (mm x R Z Y o A c G g) Q := by
  exact pW_if 1 (c := vs0 = 0) (fun call n => rfl) k1 k2
set_option maxRecDepth 20000 in
theorem b63_32 (hR : RS R) {v1 : Int32} {v2 : Int32} {v3 : Int32}   (k : pW ns d 63 2 [some (pm_r 20 0), some (pm_i v1), some (pm_i v2), some (pm_i (v3 + (nI 1)))] [] (mm x R Z Y o A c G g) Q) : pW ns d 63 32 [some (pm_r 20 0), some (pm_i v1), some (pm_i v2), some (pm_i v3)] [] (mm x R Z Y o A c G g) Q := by
  exact pW_eq 2 (fun call n => rfl) k
set_option maxRecDepth 20000 in
theorem b63_16 (hR : RS R) {v1 : Int32} {v2 : Int32} {v3 : Int32} {j1 : Nat} (e1 : v3 = nI j1) (l1 : j1 < 8)  (k1 : G 23 j1 = v1 → pW ns d 63 26 [some (pm_r 20 0), some (pm_i v1), some (pm_i v2), some (pm_i v3)] [] (mm x R Z Y o A c G g) Q) (k2 : ¬ (G 23 j1 = v1) → pW ns d 63 32 [some (pm_r 20 0), some (pm_i v1), some (pm_i v2), some (pm_i v3)] [] (mm x R Z Y o A c G g) Q) : pW ns d 63 16 [some (pm_r 20 0), some (pm_i v1), some (pm_i v2), some (pm_i v3)] [] (mm x R Z Y o A c G g) Q := by
  refine pW_eq 2 (pc' := 20) (L' := [some (pm_r 20 0), some (pm_i v1), some (pm_i v2), some (pm_i v3)]) (S' := [pm_r 23 0]) (M' := (mm x R Z Y o A c G g)) (fun call n => ?_) ?_
  · refine Eq.trans (b := pm_g (mm x R Z Y o A c G g) 20 0 (pm_go call ns d 63 n 20 [some (pm_r 20 0), some (pm_i v1), some (pm_i v2), some (pm_i v3)] [pm_a (R 20 0 3)] (mm x R Z Y o A c G g))) rfl ?_
    refine (g_ok (f := 20) (by decide) rfl).trans ?_
    exact (congrArg (fun z => pm_go call ns d 63 n 20 [some (pm_r 20 0), some (pm_i v1), some (pm_i v2), some (pm_i v3)] [pm_a z] (mm x R Z Y o A c G g)) (rs_20_3 hR))
  refine pW_eq 2 (pc' := 22) (L' := [some (pm_r 20 0), some (pm_i v1), some (pm_i v2), some (pm_i v3)]) (S' := [pm_i (G 23 j1)]) (M' := (mm x R Z Y o A c G g)) (fun call n => ?_) ?_
  · refine Eq.trans (b := pm_g (mm x R Z Y o A c G g) 23 0 (pm_ix (v3) 8 (fun jx => pm_go call ns d 63 n 22 [some (pm_r 20 0), some (pm_i v1), some (pm_i v2), some (pm_i v3)] [pm_i (G 23 jx)] (mm x R Z Y o A c G g)))) rfl ?_
    refine (g_ok (f := 23) (by decide) rfl).trans ?_
    refine (ix_ok (j := j1) e1 l1 (by decide)).trans ?_
    rfl
  exact pW_if 2 (c := G 23 j1 = v1) (fun call n => rfl) k1 k2
set_option maxRecDepth 20000 in
theorem b63_26 (hR : RS R) {v1 : Int32} {v2 : Int32} {v3 : Int32}  {x2 : Nat} {o2 : Int64} {A2 : Nat → Nat → Nat → Int32} {c2 : Nat → Int64} {G2 : Nat → Nat → Int32} {g2 : Nat → Int64}  (hE : pE ns d 62 [pm_r 20 0, pm_i v3, pm_i v2] (mm x R Z Y o A c G g) (.inl (none), (mm x2 R Z Y o2 A2 c2 G2 g2))) (k : pW ns d 63 32 [some (pm_r 20 0), some (pm_i v1), some (pm_i v2), some (pm_i v3)] [] (mm x2 R Z Y o2 A2 c2 G2 g2) Q) : pW ns d 63 26 [some (pm_r 20 0), some (pm_i v1), some (pm_i v2), some (pm_i v3)] [] (mm x R Z Y o A c G g) Q := by
  refine pW_call (pc' := 29) (r := []) (L' := [some (pm_r 20 0), some (pm_i v1), some (pm_i v2), some (pm_i v3)]) 4 (fun call n => ?_) hE k
  exact Eq.trans (b := pm_g (mm x R Z Y o A c G g) 20 0 (pm_cl call 63 (pm_go call ns d 63 n) 29 62 [pm_r 20 0, pm_i v3, pm_i v2] [] [some (pm_r 20 0), some (pm_i v1), some (pm_i v2), some (pm_i v3)] (mm x R Z Y o A c G g))) rfl (g_ok (f := 20) (by decide) rfl)
set_option maxRecDepth 20000 in
theorem t63_2 (hR : RS R) {v1 : Int32} {v2 : Int32} {v3 : Int32}  (k1 : (nI 8 ≤ v3) → Q (.inl none, (mm x R Z Y o A c G g))) (k2 : (¬ (nI 8 ≤ v3)) → pW ns d 63 8 [some (pm_r 20 0), some (pm_i v1), some (pm_i v2), some (pm_i v3)] [] (mm x R Z Y o A c G g) Q) : pW ns d 63 2 [some (pm_r 20 0), some (pm_i v1), some (pm_i v2), some (pm_i v3)] [] (mm x R Z Y o A c G g) Q := by
  refine b63_2 hR  (fun h1 => ?_) (fun h1 => ?_)
  · skip
    exact b63_38 hR   (k1 h1)
  · skip
    exact (k2 h1)
set_option maxRecDepth 20000 in
theorem t63_13 (hR : RS R) {v1 : Int32} {v2 : Int32} {v3 : Int32} {vs0 : Int32}  (k1 : (vs0 = 0) → pW ns d 63 2 [some (pm_r 20 0), some (pm_i v1), some (pm_i v2), some (pm_i (v3 + (nI 1)))] [] (mm x R Z Y o A c G g) Q) (k2 : (¬ (vs0 = 0)) → pW ns d 63 16 [some (pm_r 20 0), some (pm_i v1), some (pm_i v2), some (pm_i v3)] [] (mm x R Z Y o A c G g) Q) : pW ns d 63 13 [some (pm_r 20 0), some (pm_i v1), some (pm_i v2), some (pm_i v3)] [pm_i vs0] (mm x R Z Y o A c G g) Q := by
  refine b63_13 hR  (fun h1 => ?_) (fun h1 => ?_)
  · skip
    exact b63_32 hR   (k1 h1)
  · skip
    exact (k2 h1)
set_option maxRecDepth 20000 in
theorem t63_16 (hR : RS R) {v1 : Int32} {v2 : Int32} {v3 : Int32} {j1 : Nat} (e1 : v3 = nI j1) (l1 : j1 < 8) (k1 : (G 23 j1 = v1) → pW ns d 63 26 [some (pm_r 20 0), some (pm_i v1), some (pm_i v2), some (pm_i v3)] [] (mm x R Z Y o A c G g) Q) (k2 : (¬ (G 23 j1 = v1)) → pW ns d 63 2 [some (pm_r 20 0), some (pm_i v1), some (pm_i v2), some (pm_i (v3 + (nI 1)))] [] (mm x R Z Y o A c G g) Q) : pW ns d 63 16 [some (pm_r 20 0), some (pm_i v1), some (pm_i v2), some (pm_i v3)] [] (mm x R Z Y o A c G g) Q := by
  refine b63_16 hR e1 l1 (fun h1 => ?_) (fun h1 => ?_)
  · skip
    exact (k1 h1)
  · skip
    exact b63_32 hR   (k2 h1)
/-! 64 JobLayerModel.isUnasked -/
set_option maxRecDepth 20000 in
theorem b64_0 (hR : RS R) {v1 : Int32}   (k1 : v1 = 0 → pW ns d 64 46 [some (pm_r 20 0), some (pm_i v1)] [] (mm x R Z Y o A c G g) Q) (k2 : ¬ (v1 = 0) → pW ns d 64 4 [some (pm_r 20 0), some (pm_i v1)] [] (mm x R Z Y o A c G g) Q) : pW ns d 64 0 [some (pm_r 20 0), some (pm_i v1)] [] (mm x R Z Y o A c G g) Q := by
  exact pW_if 2 (c := v1 = 0) (fun call n => rfl) k1 k2
set_option maxRecDepth 20000 in
theorem b64_46 (hR : RS R) {u0 : Option pm_V} {u1 : Option pm_V}   (k : Q (.inl (some (pm_i (nI 1))), (mm x R Z Y o A c G g))) : pW ns d 64 46 [u0, u1] [] (mm x R Z Y o A c G g) Q := by
  refine pW_ret 3 (fun call n => ?_) k
  exact Eq.trans (b := pm_bo (nI 1) (some (.inl (some (pm_i (nI 1))), (mm x R Z Y o A c G g)))) rfl (bo_ok (by decide))
set_option maxRecDepth 20000 in
theorem b64_4 (hR : RS R) {v1 : Int32} {j1 : Nat} (e1 : ((nI 8) * v1) + (nI 5) = nI j1) (l1 : j1 < 64)  (k1 : G 33 j1 = nI 1 → pW ns d 64 46 [some (pm_r 20 0), some (pm_i v1)] [] (mm x R Z Y o A c G g) Q) (k2 : ¬ (G 33 j1 = nI 1) → pW ns d 64 19 [some (pm_r 20 0), some (pm_i v1)] [] (mm x R Z Y o A c G g) Q) : pW ns d 64 4 [some (pm_r 20 0), some (pm_i v1)] [] (mm x R Z Y o A c G g) Q := by
  refine pW_eq 2 (pc' := 8) (L' := [some (pm_r 20 0), some (pm_i v1)]) (S' := [pm_r 33 0]) (M' := (mm x R Z Y o A c G g)) (fun call n => ?_) ?_
  · refine Eq.trans (b := pm_g (mm x R Z Y o A c G g) 20 0 (pm_go call ns d 64 n 8 [some (pm_r 20 0), some (pm_i v1)] [pm_a (R 20 0 13)] (mm x R Z Y o A c G g))) rfl ?_
    refine (g_ok (f := 20) (by decide) rfl).trans ?_
    exact (congrArg (fun z => pm_go call ns d 64 n 8 [some (pm_r 20 0), some (pm_i v1)] [pm_a z] (mm x R Z Y o A c G g)) (rs_20_13 hR))
  refine pW_eq 6 (pc' := 15) (L' := [some (pm_r 20 0), some (pm_i v1)]) (S' := [pm_i (G 33 j1)]) (M' := (mm x R Z Y o A c G g)) (fun call n => ?_) ?_
  · refine Eq.trans (b := pm_g (mm x R Z Y o A c G g) 33 0 (pm_ix (((nI 8) * v1) + (nI 5)) 64 (fun jx => pm_go call ns d 64 n 15 [some (pm_r 20 0), some (pm_i v1)] [pm_i (G 33 jx)] (mm x R Z Y o A c G g)))) rfl ?_
    refine (g_ok (f := 33) (by decide) rfl).trans ?_
    refine (ix_ok (j := j1) e1 l1 (by decide)).trans ?_
    rfl
  exact pW_if 2 (c := G 33 j1 = nI 1) (fun call n => rfl) k1 k2
set_option maxRecDepth 20000 in
theorem b64_19 (hR : RS R) {v1 : Int32} {j1 : Nat} (e1 : v1 = nI j1) (l1 : j1 < 8)  (k1 : ((G 24 j1) >>> ((nI 5) &&& 31)) &&& (nI 1) = nI 1 → pW ns d 64 46 [some (pm_r 20 0), some (pm_i v1)] [] (mm x R Z Y o A c G g) Q) (k2 : ¬ (((G 24 j1) >>> ((nI 5) &&& 31)) &&& (nI 1) = nI 1) → pW ns d 64 33 [some (pm_r 20 0), some (pm_i v1)] [] (mm x R Z Y o A c G g) Q) : pW ns d 64 19 [some (pm_r 20 0), some (pm_i v1)] [] (mm x R Z Y o A c G g) Q := by
  refine pW_eq 2 (pc' := 23) (L' := [some (pm_r 20 0), some (pm_i v1)]) (S' := [pm_r 24 0]) (M' := (mm x R Z Y o A c G g)) (fun call n => ?_) ?_
  · refine Eq.trans (b := pm_g (mm x R Z Y o A c G g) 20 0 (pm_go call ns d 64 n 23 [some (pm_r 20 0), some (pm_i v1)] [pm_a (R 20 0 4)] (mm x R Z Y o A c G g))) rfl ?_
    refine (g_ok (f := 20) (by decide) rfl).trans ?_
    exact (congrArg (fun z => pm_go call ns d 64 n 23 [some (pm_r 20 0), some (pm_i v1)] [pm_a z] (mm x R Z Y o A c G g)) (rs_20_4 hR))
  refine pW_eq 2 (pc' := 25) (L' := [some (pm_r 20 0), some (pm_i v1)]) (S' := [pm_i (G 24 j1)]) (M' := (mm x R Z Y o A c G g)) (fun call n => ?_) ?_
  · refine Eq.trans (b := pm_g (mm x R Z Y o A c G g) 24 0 (pm_ix (v1) 8 (fun jx => pm_go call ns d 64 n 25 [some (pm_r 20 0), some (pm_i v1)] [pm_i (G 24 jx)] (mm x R Z Y o A c G g)))) rfl ?_
    refine (g_ok (f := 24) (by decide) rfl).trans ?_
    refine (ix_ok (j := j1) e1 l1 (by decide)).trans ?_
    rfl
  exact pW_if 6 (c := ((G 24 j1) >>> ((nI 5) &&& 31)) &&& (nI 1) = nI 1) (fun call n => rfl) k1 k2
set_option maxRecDepth 20000 in
theorem b64_33 (hR : RS R) {v1 : Int32} {j1 : Nat} (e1 : v1 = nI j1) (l1 : j1 < 8) {x2 : Nat} {o2 : Int64} {A2 : Nat → Nat → Nat → Int32} {c2 : Nat → Int64} {G2 : Nat → Nat → Int32} {g2 : Nat → Int64} {y : Int32} (hE : pE ns d 54 [pm_r 20 0, pm_i (G 23 j1)] (mm x R Z Y o A c G g) (.inl (some (pm_i y)), (mm x2 R Z Y o2 A2 c2 G2 g2))) (k : pW ns d 64 43 [some (pm_r 20 0), some (pm_i v1)] [pm_i y] (mm x2 R Z Y o2 A2 c2 G2 g2) Q) : pW ns d 64 33 [some (pm_r 20 0), some (pm_i v1)] [] (mm x R Z Y o A c G g) Q := by
  refine pW_eq 3 (pc' := 38) (L' := [some (pm_r 20 0), some (pm_i v1)]) (S' := [pm_r 23 0, pm_r 20 0]) (M' := (mm x R Z Y o A c G g)) (fun call n => ?_) ?_
  · refine Eq.trans (b := pm_g (mm x R Z Y o A c G g) 20 0 (pm_go call ns d 64 n 38 [some (pm_r 20 0), some (pm_i v1)] [pm_a (R 20 0 3), pm_r 20 0] (mm x R Z Y o A c G g))) rfl ?_
    refine (g_ok (f := 20) (by decide) rfl).trans ?_
    exact (congrArg (fun z => pm_go call ns d 64 n 38 [some (pm_r 20 0), some (pm_i v1)] [pm_a z, pm_r 20 0] (mm x R Z Y o A c G g)) (rs_20_3 hR))
  refine pW_eq 2 (pc' := 40) (L' := [some (pm_r 20 0), some (pm_i v1)]) (S' := [pm_i (G 23 j1), pm_r 20 0]) (M' := (mm x R Z Y o A c G g)) (fun call n => ?_) ?_
  · refine Eq.trans (b := pm_g (mm x R Z Y o A c G g) 23 0 (pm_ix (v1) 8 (fun jx => pm_go call ns d 64 n 40 [some (pm_r 20 0), some (pm_i v1)] [pm_i (G 23 jx), pm_r 20 0] (mm x R Z Y o A c G g)))) rfl ?_
    refine (g_ok (f := 23) (by decide) rfl).trans ?_
    refine (ix_ok (j := j1) e1 l1 (by decide)).trans ?_
    rfl
  refine pW_call (pc' := 40) (r := []) (L' := [some (pm_r 20 0), some (pm_i v1)]) 1 (fun call n => ?_) hE k
  exact Eq.trans (b := pm_g (mm x R Z Y o A c G g) 20 0 (pm_cl call 64 (pm_go call ns d 64 n) 40 54 [pm_r 20 0, pm_i (G 23 j1)] [] [some (pm_r 20 0), some (pm_i v1)] (mm x R Z Y o A c G g))) rfl (g_ok (f := 20) (by decide) rfl)
set_option maxRecDepth 20000 in
theorem b64_43 (hR : RS R) {u0 : Option pm_V} {u1 : Option pm_V} {vs0 : Int32}   (k1 : vs0 = 0 → pW ns d 64 50 [u0, u1] [] (mm x R Z Y o A c G g) Q) (k2 : ¬ (vs0 = 0) → pW ns d 64 46 [u0, u1] [] (mm x R Z Y o A c G g) Q) : pW ns d 64 43 [u0, u1] [pm_i vs0] (mm x R Z Y o A c G g) Q := by
  exact pW_if 1 (c := vs0 = 0) (fun call n => rfl) k1 k2
set_option maxRecDepth 20000 in
theorem b64_50 (hR : RS R) {u0 : Option pm_V} {u1 : Option pm_V}   (k : Q (.inl (some (pm_i (nI 0))), (mm x R Z Y o A c G g))) : pW ns d 64 50 [u0, u1] [] (mm x R Z Y o A c G g) Q := by
  refine pW_ret 2 (fun call n => ?_) k
  exact Eq.trans (b := pm_bo (nI 0) (some (.inl (some (pm_i (nI 0))), (mm x R Z Y o A c G g)))) rfl (bo_ok (by decide))
set_option maxRecDepth 20000 in
theorem t64_0 (hR : RS R) {v1 : Int32}  (k1 : (v1 = 0) → Q (.inl (some (pm_i (nI 1))), (mm x R Z Y o A c G g))) (k2 : (¬ (v1 = 0)) → pW ns d 64 4 [some (pm_r 20 0), some (pm_i v1)] [] (mm x R Z Y o A c G g) Q) : pW ns d 64 0 [some (pm_r 20 0), some (pm_i v1)] [] (mm x R Z Y o A c G g) Q := by
  refine b64_0 hR  (fun h1 => ?_) (fun h1 => ?_)
  · skip
    exact b64_46 hR   (k1 h1)
  · skip
    exact (k2 h1)
set_option maxRecDepth 20000 in
theorem t64_4 (hR : RS R) {v1 : Int32} {j1 : Nat} (e1 : ((nI 8) * v1) + (nI 5) = nI j1) (l1 : j1 < 64) (k1 : (G 33 j1 = nI 1) → Q (.inl (some (pm_i (nI 1))), (mm x R Z Y o A c G g))) (k2 : (¬ (G 33 j1 = nI 1)) → pW ns d 64 19 [some (pm_r 20 0), some (pm_i v1)] [] (mm x R Z Y o A c G g) Q) : pW ns d 64 4 [some (pm_r 20 0), some (pm_i v1)] [] (mm x R Z Y o A c G g) Q := by
  refine b64_4 hR e1 l1 (fun h1 => ?_) (fun h1 => ?_)
  · skip
    exact b64_46 hR   (k1 h1)
  · skip
    exact (k2 h1)
set_option maxRecDepth 20000 in
theorem t64_19 (hR : RS R) {v1 : Int32} {j1 : Nat} (e1 : v1 = nI j1) (l1 : j1 < 8) (k1 : (((G 24 j1) >>> ((nI 5) &&& 31)) &&& (nI 1) = nI 1) → Q (.inl (some (pm_i (nI 1))), (mm x R Z Y o A c G g))) (k2 : (¬ (((G 24 j1) >>> ((nI 5) &&& 31)) &&& (nI 1) = nI 1)) → pW ns d 64 33 [some (pm_r 20 0), some (pm_i v1)] [] (mm x R Z Y o A c G g) Q) : pW ns d 64 19 [some (pm_r 20 0), some (pm_i v1)] [] (mm x R Z Y o A c G g) Q := by
  refine b64_19 hR e1 l1 (fun h1 => ?_) (fun h1 => ?_)
  · skip
    exact b64_46 hR   (k1 h1)
  · skip
    exact (k2 h1)
set_option maxRecDepth 20000 in
theorem t64_43 (hR : RS R) {u0 : Option pm_V} {u1 : Option pm_V} {vs0 : Int32}  (k1 : (vs0 = 0) → Q (.inl (some (pm_i (nI 0))), (mm x R Z Y o A c G g))) (k2 : (¬ (vs0 = 0)) → Q (.inl (some (pm_i (nI 1))), (mm x R Z Y o A c G g))) : pW ns d 64 43 [u0, u1] [pm_i vs0] (mm x R Z Y o A c G g) Q := by
  refine b64_43 hR  (fun h1 => ?_) (fun h1 => ?_)
  · skip
    exact b64_50 hR   (k1 h1)
  · skip
    exact b64_46 hR   (k2 h1)
/-! 65 JobLayerModel.child -/
set_option maxRecDepth 20000 in
theorem b65_0 (hR : RS R) {v1 : Int32} {v2 : Int32} {u3 : Option pm_V} {u4 : Option pm_V} {u5 : Option pm_V}   (k : pW ns d 65 6 [some (pm_r 20 0), some (pm_i v1), some (pm_i v2), some (pm_i (-nI 1)), some (pm_i (nI 7)), u5] [] (mm x R Z Y o A c G g) Q) : pW ns d 65 0 [some (pm_r 20 0), some (pm_i v1), some (pm_i v2), u3, u4, u5] [] (mm x R Z Y o A c G g) Q := by
  exact pW_eq 4 (fun call n => rfl) k
set_option maxRecDepth 20000 in
theorem b65_6 (hR : RS R) {v1 : Int32} {v2 : Int32} {v3 : Int32} {v4 : Int32} {u5 : Option pm_V}   (k1 : v4 ≤ 0 → pW ns d 65 114 [some (pm_r 20 0), some (pm_i v1), some (pm_i v2), some (pm_i v3), some (pm_i v4), u5] [] (mm x R Z Y o A c G g) Q) (k2 : ¬ (v4 ≤ 0) → pW ns d 65 11 [some (pm_r 20 0), some (pm_i v1), some (pm_i v2), some (pm_i v3), some (pm_i v4), u5] [] (mm x R Z Y o A c G g) Q) : pW ns d 65 6 [some (pm_r 20 0), some (pm_i v1), some (pm_i v2), some (pm_i v3), some (pm_i v4), u5] [] (mm x R Z Y o A c G g) Q := by
  exact pW_if 2 (c := v4 ≤ 0) (fun call n => rfl) k1 k2
set_option maxRecDepth 20000 in
theorem b65_114 (hR : RS R) {u0 : Option pm_V} {u1 : Option pm_V} {u2 : Option pm_V} {v3 : Int32} {u4 : Option pm_V} {u5 : Option pm_V}   (k : Q (.inl (some (pm_i v3)), (mm x R Z Y o A c G g))) : pW ns d 65 114 [u0, u1, u2, some (pm_i v3), u4, u5] [] (mm x R Z Y o A c G g) Q := by
  refine pW_ret 2 (fun call n => ?_) k
  rfl
set_option maxRecDepth 20000 in
theorem b65_11 (hR : RS R) {v1 : Int32} {v2 : Int32} {v3 : Int32} {v4 : Int32} {u5 : Option pm_V}   (k1 : v2 = 0 → pW ns d 65 15 [some (pm_r 20 0), some (pm_i v1), some (pm_i v2), some (pm_i v3), some (pm_i v4), u5] [] (mm x R Z Y o A c G g) Q) (k2 : ¬ (v2 = 0) → pW ns d 65 33 [some (pm_r 20 0), some (pm_i v1), some (pm_i v2), some (pm_i v3), some (pm_i v4), u5] [] (mm x R Z Y o A c G g) Q) : pW ns d 65 11 [some (pm_r 20 0), some (pm_i v1), some (pm_i v2), some (pm_i v3), some (pm_i v4), u5] [] (mm x R Z Y o A c G g) Q := by
  exact pW_if 2 (c := v2 = 0) (fun call n => rfl) k1 k2
set_option maxRecDepth 20000 in
theorem b65_15 (hR : RS R) {v1 : Int32} {v2 : Int32} {v3 : Int32} {v4 : Int32} {u5 : Option pm_V} {j1 : Nat} (e1 : v4 = nI j1) (l1 : j1 < 8)  (k1 : G 21 j1 = 0 → pW ns d 65 29 [some (pm_r 20 0), some (pm_i v1), some (pm_i v2), some (pm_i v3), some (pm_i v4), u5] [] (mm x R Z Y o A c G g) Q) (k2 : ¬ (G 21 j1 = 0) → pW ns d 65 25 [some (pm_r 20 0), some (pm_i v1), some (pm_i v2), some (pm_i v3), some (pm_i v4), u5] [] (mm x R Z Y o A c G g) Q) : pW ns d 65 15 [some (pm_r 20 0), some (pm_i v1), some (pm_i v2), some (pm_i v3), some (pm_i v4), u5] [] (mm x R Z Y o A c G g) Q := by
  refine pW_eq 2 (pc' := 19) (L' := [some (pm_r 20 0), some (pm_i v1), some (pm_i v2), some (pm_i v3), some (pm_i v4), u5]) (S' := [pm_r 21 0]) (M' := (mm x R Z Y o A c G g)) (fun call n => ?_) ?_
  · refine Eq.trans (b := pm_g (mm x R Z Y o A c G g) 20 0 (pm_go call ns d 65 n 19 [some (pm_r 20 0), some (pm_i v1), some (pm_i v2), some (pm_i v3), some (pm_i v4), u5] [pm_a (R 20 0 1)] (mm x R Z Y o A c G g))) rfl ?_
    refine (g_ok (f := 20) (by decide) rfl).trans ?_
    exact (congrArg (fun z => pm_go call ns d 65 n 19 [some (pm_r 20 0), some (pm_i v1), some (pm_i v2), some (pm_i v3), some (pm_i v4), u5] [pm_a z] (mm x R Z Y o A c G g)) (rs_20_1 hR))
  refine pW_eq 2 (pc' := 22) (L' := [some (pm_r 20 0), some (pm_i v1), some (pm_i v2), some (pm_i v3), some (pm_i v4), u5]) (S' := [pm_i (G 21 j1)]) (M' := (mm x R Z Y o A c G g)) (fun call n => ?_) ?_
  · refine Eq.trans (b := pm_g (mm x R Z Y o A c G g) 21 0 (pm_ix (v4) 8 (fun jx => pm_go call ns d 65 n 22 [some (pm_r 20 0), some (pm_i v1), some (pm_i v2), some (pm_i v3), some (pm_i v4), u5] [pm_i (G 21 jx)] (mm x R Z Y o A c G g)))) rfl ?_
    refine (g_ok (f := 21) (by decide) rfl).trans ?_
    refine (ix_ok (j := j1) e1 l1 (by decide)).trans ?_
    rfl
  exact pW_if 1 (c := G 21 j1 = 0) (fun call n => rfl) k1 k2
set_option maxRecDepth 20000 in
theorem b65_33 (hR : RS R) {v1 : Int32} {v2 : Int32} {v3 : Int32} {v4 : Int32} {u5 : Option pm_V}   (k1 : v2 = nI 3 → pW ns d 65 38 [some (pm_r 20 0), some (pm_i v1), some (pm_i v2), some (pm_i v3), some (pm_i v4), u5] [] (mm x R Z Y o A c G g) Q) (k2 : ¬ (v2 = nI 3) → pW ns d 65 67 [some (pm_r 20 0), some (pm_i v1), some (pm_i v2), some (pm_i v3), some (pm_i v4), u5] [] (mm x R Z Y o A c G g) Q) : pW ns d 65 33 [some (pm_r 20 0), some (pm_i v1), some (pm_i v2), some (pm_i v3), some (pm_i v4), u5] [] (mm x R Z Y o A c G g) Q := by
  exact pW_if 3 (c := v2 = nI 3) (fun call n => rfl) k1 k2
set_option maxRecDepth 20000 in
theorem b65_29 (hR : RS R) {v1 : Int32} {v2 : Int32} {v3 : Int32} {v4 : Int32} {u5 : Option pm_V}   (k1 : nI 0 = 0 → pW ns d 65 106 [some (pm_r 20 0), some (pm_i v1), some (pm_i v2), some (pm_i v3), some (pm_i v4), some (pm_i (nI 0))] [] (mm x R Z Y o A c G g) Q) (k2 : ¬ (nI 0 = 0) → pW ns d 65 90 [some (pm_r 20 0), some (pm_i v1), some (pm_i v2), some (pm_i v3), some (pm_i v4), some (pm_i (nI 0))] [] (mm x R Z Y o A c G g) Q) : pW ns d 65 29 [some (pm_r 20 0), some (pm_i v1), some (pm_i v2), some (pm_i v3), some (pm_i v4), u5] [] (mm x R Z Y o A c G g) Q := by
  exact pW_if 5 (c := nI 0 = 0) (fun call n => rfl) k1 k2
set_option maxRecDepth 20000 in
theorem b65_25 (hR : RS R) {v1 : Int32} {v2 : Int32} {v3 : Int32} {v4 : Int32} {u5 : Option pm_V}   (k1 : nI 1 = 0 → pW ns d 65 106 [some (pm_r 20 0), some (pm_i v1), some (pm_i v2), some (pm_i v3), some (pm_i v4), some (pm_i (nI 1))] [] (mm x R Z Y o A c G g) Q) (k2 : ¬ (nI 1 = 0) → pW ns d 65 90 [some (pm_r 20 0), some (pm_i v1), some (pm_i v2), some (pm_i v3), some (pm_i v4), some (pm_i (nI 1))] [] (mm x R Z Y o A c G g) Q) : pW ns d 65 25 [some (pm_r 20 0), some (pm_i v1), some (pm_i v2), some (pm_i v3), some (pm_i v4), u5] [] (mm x R Z Y o A c G g) Q := by
  exact pW_if 5 (c := nI 1 = 0) (fun call n => rfl) k1 k2
set_option maxRecDepth 20000 in
theorem b65_38 (hR : RS R) {v1 : Int32} {v2 : Int32} {v3 : Int32} {v4 : Int32} {u5 : Option pm_V} {j1 : Nat} (e1 : v4 = nI j1) (l1 : j1 < 8)  (k1 : G 21 j1 = nI 3 → pW ns d 65 49 [some (pm_r 20 0), some (pm_i v1), some (pm_i v2), some (pm_i v3), some (pm_i v4), u5] [] (mm x R Z Y o A c G g) Q) (k2 : ¬ (G 21 j1 = nI 3) → pW ns d 65 63 [some (pm_r 20 0), some (pm_i v1), some (pm_i v2), some (pm_i v3), some (pm_i v4), u5] [] (mm x R Z Y o A c G g) Q) : pW ns d 65 38 [some (pm_r 20 0), some (pm_i v1), some (pm_i v2), some (pm_i v3), some (pm_i v4), u5] [] (mm x R Z Y o A c G g) Q := by
  refine pW_eq 2 (pc' := 42) (L' := [some (pm_r 20 0), some (pm_i v1), some (pm_i v2), some (pm_i v3), some (pm_i v4), u5]) (S' := [pm_r 21 0]) (M' := (mm x R Z Y o A c G g)) (fun call n => ?_) ?_
  · refine Eq.trans (b := pm_g (mm x R Z Y o A c G g) 20 0 (pm_go call ns d 65 n 42 [some (pm_r 20 0), some (pm_i v1), some (pm_i v2), some (pm_i v3), some (pm_i v4), u5] [pm_a (R 20 0 1)] (mm x R Z Y o A c G g))) rfl ?_
    refine (g_ok (f := 20) (by decide) rfl).trans ?_
    exact (congrArg (fun z => pm_go call ns d 65 n 42 [some (pm_r 20 0), some (pm_i v1), some (pm_i v2), some (pm_i v3), some (pm_i v4), u5] [pm_a z] (mm x R Z Y o A c G g)) (rs_20_1 hR))
  refine pW_eq 2 (pc' := 45) (L' := [some (pm_r 20 0), some (pm_i v1), some (pm_i v2), some (pm_i v3), some (pm_i v4), u5]) (S' := [pm_i (G 21 j1)]) (M' := (mm x R Z Y o A c G g)) (fun call n => ?_) ?_
  · refine Eq.trans (b := pm_g (mm x R Z Y o A c G g) 21 0 (pm_ix (v4) 8 (fun jx => pm_go call ns d 65 n 45 [some (pm_r 20 0), some (pm_i v1), some (pm_i v2), some (pm_i v3), some (pm_i v4), u5] [pm_i (G 21 jx)] (mm x R Z Y o A c G g)))) rfl ?_
    refine (g_ok (f := 21) (by decide) rfl).trans ?_
    refine (ix_ok (j := j1) e1 l1 (by decide)).trans ?_
    rfl
  exact pW_if 2 (c := G 21 j1 = nI 3) (fun call n => rfl) k1 k2
set_option maxRecDepth 20000 in
theorem b65_67 (hR : RS R) {v1 : Int32} {v2 : Int32} {v3 : Int32} {v4 : Int32} {u5 : Option pm_V} {j1 : Nat} (e1 : v4 = nI j1) (l1 : j1 < 8)  (k1 : G 21 j1 = v2 → pW ns d 65 78 [some (pm_r 20 0), some (pm_i v1), some (pm_i v2), some (pm_i v3), some (pm_i v4), u5] [] (mm x R Z Y o A c G g) Q) (k2 : ¬ (G 21 j1 = v2) → pW ns d 65 82 [some (pm_r 20 0), some (pm_i v1), some (pm_i v2), some (pm_i v3), some (pm_i v4), u5] [] (mm x R Z Y o A c G g) Q) : pW ns d 65 67 [some (pm_r 20 0), some (pm_i v1), some (pm_i v2), some (pm_i v3), some (pm_i v4), u5] [] (mm x R Z Y o A c G g) Q := by
  refine pW_eq 2 (pc' := 71) (L' := [some (pm_r 20 0), some (pm_i v1), some (pm_i v2), some (pm_i v3), some (pm_i v4), u5]) (S' := [pm_r 21 0]) (M' := (mm x R Z Y o A c G g)) (fun call n => ?_) ?_
  · refine Eq.trans (b := pm_g (mm x R Z Y o A c G g) 20 0 (pm_go call ns d 65 n 71 [some (pm_r 20 0), some (pm_i v1), some (pm_i v2), some (pm_i v3), some (pm_i v4), u5] [pm_a (R 20 0 1)] (mm x R Z Y o A c G g))) rfl ?_
    refine (g_ok (f := 20) (by decide) rfl).trans ?_
    exact (congrArg (fun z => pm_go call ns d 65 n 71 [some (pm_r 20 0), some (pm_i v1), some (pm_i v2), some (pm_i v3), some (pm_i v4), u5] [pm_a z] (mm x R Z Y o A c G g)) (rs_20_1 hR))
  refine pW_eq 2 (pc' := 74) (L' := [some (pm_r 20 0), some (pm_i v1), some (pm_i v2), some (pm_i v3), some (pm_i v4), u5]) (S' := [pm_i (G 21 j1)]) (M' := (mm x R Z Y o A c G g)) (fun call n => ?_) ?_
  · refine Eq.trans (b := pm_g (mm x R Z Y o A c G g) 21 0 (pm_ix (v4) 8 (fun jx => pm_go call ns d 65 n 74 [some (pm_r 20 0), some (pm_i v1), some (pm_i v2), some (pm_i v3), some (pm_i v4), u5] [pm_i (G 21 jx)] (mm x R Z Y o A c G g)))) rfl ?_
    refine (g_ok (f := 21) (by decide) rfl).trans ?_
    refine (ix_ok (j := j1) e1 l1 (by decide)).trans ?_
    rfl
  exact pW_if 2 (c := G 21 j1 = v2) (fun call n => rfl) k1 k2
set_option maxRecDepth 20000 in
theorem b65_106 (hR : RS R) {v1 : Int32} {v2 : Int32} {v3 : Int32} {v4 : Int32} {u5 : Option pm_V}   (k : pW ns d 65 6 [some (pm_r 20 0), some (pm_i v1), some (pm_i v2), some (pm_i v3), some (pm_i (v4 + pm_c (-1))), u5] [] (mm x R Z Y o A c G g) Q) : pW ns d 65 106 [some (pm_r 20 0), some (pm_i v1), some (pm_i v2), some (pm_i v3), some (pm_i v4), u5] [] (mm x R Z Y o A c G g) Q := by
  refine pW_eq 2 (pc' := 108) (L' := [some (pm_r 20 0), some (pm_i v1), some (pm_i v2), some (pm_i v3), some (pm_i v4), u5]) (S' := []) (M' := (mm x R Z Y o A c G g)) (fun call n => ?_) ?_
  · refine Eq.trans (b := pm_go call ns d 65 n 108 [some (pm_r 20 0), some (pm_i v1), some (pm_i v2), some (pm_i v3), some (pm_i v4), u5] [] (mm x R Z Y o A c G g)) rfl ?_
    rfl
  refine pW_eq 1 (pc' := 111) (L' := [some (pm_r 20 0), some (pm_i v1), some (pm_i v2), some (pm_i v3), some (pm_i (v4 + pm_c (-1))), u5]) (S' := []) (M' := (mm x R Z Y o A c G g)) (fun call n => ?_) ?_
  · refine Eq.trans (b := pm_step call ns d 65 (pm_go call ns d 65 n) (.iinc 4 (-1)) 108 [some (pm_r 20 0), some (pm_i v1), some (pm_i v2), some (pm_i v3), some (pm_i v4), u5] [] (mm x R Z Y o A c G g)) rfl ?_
    refine (Eq.refl _).trans ?_
    rfl
  exact pW_eq 1 (fun call n => rfl) k
set_option maxRecDepth 20000 in
theorem b65_90 (hR : RS R) {v1 : Int32} {v2 : Int32} {v3 : Int32} {v4 : Int32} {u5 : Option pm_V} {j1 : Nat} (e1 : v4 = nI j1) (l1 : j1 < 8)  (k1 : G 22 j1 = v1 → pW ns d 65 101 [some (pm_r 20 0), some (pm_i v1), some (pm_i v2), some (pm_i v3), some (pm_i v4), u5] [] (mm x R Z Y o A c G g) Q) (k2 : ¬ (G 22 j1 = v1) → pW ns d 65 106 [some (pm_r 20 0), some (pm_i v1), some (pm_i v2), some (pm_i v3), some (pm_i v4), u5] [] (mm x R Z Y o A c G g) Q) : pW ns d 65 90 [some (pm_r 20 0), some (pm_i v1), some (pm_i v2), some (pm_i v3), some (pm_i v4), u5] [] (mm x R Z Y o A c G g) Q := by
  refine pW_eq 2 (pc' := 94) (L' := [some (pm_r 20 0), some (pm_i v1), some (pm_i v2), some (pm_i v3), some (pm_i v4), u5]) (S' := [pm_r 22 0]) (M' := (mm x R Z Y o A c G g)) (fun call n => ?_) ?_
  · refine Eq.trans (b := pm_g (mm x R Z Y o A c G g) 20 0 (pm_go call ns d 65 n 94 [some (pm_r 20 0), some (pm_i v1), some (pm_i v2), some (pm_i v3), some (pm_i v4), u5] [pm_a (R 20 0 2)] (mm x R Z Y o A c G g))) rfl ?_
    refine (g_ok (f := 20) (by decide) rfl).trans ?_
    exact (congrArg (fun z => pm_go call ns d 65 n 94 [some (pm_r 20 0), some (pm_i v1), some (pm_i v2), some (pm_i v3), some (pm_i v4), u5] [pm_a z] (mm x R Z Y o A c G g)) (rs_20_2 hR))
  refine pW_eq 2 (pc' := 97) (L' := [some (pm_r 20 0), some (pm_i v1), some (pm_i v2), some (pm_i v3), some (pm_i v4), u5]) (S' := [pm_i (G 22 j1)]) (M' := (mm x R Z Y o A c G g)) (fun call n => ?_) ?_
  · refine Eq.trans (b := pm_g (mm x R Z Y o A c G g) 22 0 (pm_ix (v4) 8 (fun jx => pm_go call ns d 65 n 97 [some (pm_r 20 0), some (pm_i v1), some (pm_i v2), some (pm_i v3), some (pm_i v4), u5] [pm_i (G 22 jx)] (mm x R Z Y o A c G g)))) rfl ?_
    refine (g_ok (f := 22) (by decide) rfl).trans ?_
    refine (ix_ok (j := j1) e1 l1 (by decide)).trans ?_
    rfl
  exact pW_if 2 (c := G 22 j1 = v1) (fun call n => rfl) k1 k2
set_option maxRecDepth 20000 in
theorem b65_49 (hR : RS R) {v1 : Int32} {v2 : Int32} {v3 : Int32} {v4 : Int32} {u5 : Option pm_V} {j1 : Nat} (e1 : v4 = nI j1) (l1 : j1 < 8)  (k1 : G 31 j1 = 0 → pW ns d 65 59 [some (pm_r 20 0), some (pm_i v1), some (pm_i v2), some (pm_i v3), some (pm_i v4), u5] [] (mm x R Z Y o A c G g) Q) (k2 : ¬ (G 31 j1 = 0) → pW ns d 65 63 [some (pm_r 20 0), some (pm_i v1), some (pm_i v2), some (pm_i v3), some (pm_i v4), u5] [] (mm x R Z Y o A c G g) Q) : pW ns d 65 49 [some (pm_r 20 0), some (pm_i v1), some (pm_i v2), some (pm_i v3), some (pm_i v4), u5] [] (mm x R Z Y o A c G g) Q := by
  refine pW_eq 2 (pc' := 53) (L' := [some (pm_r 20 0), some (pm_i v1), some (pm_i v2), some (pm_i v3), some (pm_i v4), u5]) (S' := [pm_r 31 0]) (M' := (mm x R Z Y o A c G g)) (fun call n => ?_) ?_
  · refine Eq.trans (b := pm_g (mm x R Z Y o A c G g) 20 0 (pm_go call ns d 65 n 53 [some (pm_r 20 0), some (pm_i v1), some (pm_i v2), some (pm_i v3), some (pm_i v4), u5] [pm_a (R 20 0 11)] (mm x R Z Y o A c G g))) rfl ?_
    refine (g_ok (f := 20) (by decide) rfl).trans ?_
    exact (congrArg (fun z => pm_go call ns d 65 n 53 [some (pm_r 20 0), some (pm_i v1), some (pm_i v2), some (pm_i v3), some (pm_i v4), u5] [pm_a z] (mm x R Z Y o A c G g)) (rs_20_11 hR))
  refine pW_eq 2 (pc' := 56) (L' := [some (pm_r 20 0), some (pm_i v1), some (pm_i v2), some (pm_i v3), some (pm_i v4), u5]) (S' := [pm_i (G 31 j1)]) (M' := (mm x R Z Y o A c G g)) (fun call n => ?_) ?_
  · refine Eq.trans (b := pm_g (mm x R Z Y o A c G g) 31 0 (pm_ix (v4) 8 (fun jx => pm_go call ns d 65 n 56 [some (pm_r 20 0), some (pm_i v1), some (pm_i v2), some (pm_i v3), some (pm_i v4), u5] [pm_i (G 31 jx)] (mm x R Z Y o A c G g)))) rfl ?_
    refine (g_ok (f := 31) (by decide) rfl).trans ?_
    refine (ix_ok (j := j1) e1 l1 (by decide)).trans ?_
    rfl
  exact pW_if 1 (c := G 31 j1 = 0) (fun call n => rfl) k1 k2
set_option maxRecDepth 20000 in
theorem b65_63 (hR : RS R) {v1 : Int32} {v2 : Int32} {v3 : Int32} {v4 : Int32} {u5 : Option pm_V}   (k1 : nI 0 = 0 → pW ns d 65 106 [some (pm_r 20 0), some (pm_i v1), some (pm_i v2), some (pm_i v3), some (pm_i v4), some (pm_i (nI 0))] [] (mm x R Z Y o A c G g) Q) (k2 : ¬ (nI 0 = 0) → pW ns d 65 90 [some (pm_r 20 0), some (pm_i v1), some (pm_i v2), some (pm_i v3), some (pm_i v4), some (pm_i (nI 0))] [] (mm x R Z Y o A c G g) Q) : pW ns d 65 63 [some (pm_r 20 0), some (pm_i v1), some (pm_i v2), some (pm_i v3), some (pm_i v4), u5] [] (mm x R Z Y o A c G g) Q := by
  exact pW_if 5 (c := nI 0 = 0) (fun call n => rfl) k1 k2
set_option maxRecDepth 20000 in
theorem b65_78 (hR : RS R) {v1 : Int32} {v2 : Int32} {v3 : Int32} {v4 : Int32} {u5 : Option pm_V}   (k1 : nI 1 = 0 → pW ns d 65 106 [some (pm_r 20 0), some (pm_i v1), some (pm_i v2), some (pm_i v3), some (pm_i v4), some (pm_i (nI 1))] [] (mm x R Z Y o A c G g) Q) (k2 : ¬ (nI 1 = 0) → pW ns d 65 90 [some (pm_r 20 0), some (pm_i v1), some (pm_i v2), some (pm_i v3), some (pm_i v4), some (pm_i (nI 1))] [] (mm x R Z Y o A c G g) Q) : pW ns d 65 78 [some (pm_r 20 0), some (pm_i v1), some (pm_i v2), some (pm_i v3), some (pm_i v4), u5] [] (mm x R Z Y o A c G g) Q := by
  exact pW_if 5 (c := nI 1 = 0) (fun call n => rfl) k1 k2
set_option maxRecDepth 20000 in
theorem b65_82 (hR : RS R) {v1 : Int32} {v2 : Int32} {v3 : Int32} {v4 : Int32} {u5 : Option pm_V}   (k1 : nI 0 = 0 → pW ns d 65 106 [some (pm_r 20 0), some (pm_i v1), some (pm_i v2), some (pm_i v3), some (pm_i v4), some (pm_i (nI 0))] [] (mm x R Z Y o A c G g) Q) (k2 : ¬ (nI 0 = 0) → pW ns d 65 90 [some (pm_r 20 0), some (pm_i v1), some (pm_i v2), some (pm_i v3), some (pm_i v4), some (pm_i (nI 0))] [] (mm x R Z Y o A c G g) Q) : pW ns d 65 82 [some (pm_r 20 0), some (pm_i v1), some (pm_i v2), some (pm_i v3), some (pm_i v4), u5] [] (mm x R Z Y o A c G g) Q := by
  exact pW_if 4 (c := nI 0 = 0) (fun call n => rfl) k1 k2
set_option maxRecDepth 20000 in
theorem b65_101 (hR : RS R) {v1 : Int32} {v2 : Int32} {u3 : Option pm_V} {v4 : Int32} {u5 : Option pm_V}   (k : pW ns d 65 6 [some (pm_r 20 0), some (pm_i v1), some (pm_i v2), some (pm_i v4), some (pm_i (v4 + pm_c (-1))), u5] [] (mm x R Z Y o A c G g) Q) : pW ns d 65 101 [some (pm_r 20 0), some (pm_i v1), some (pm_i v2), u3, some (pm_i v4), u5] [] (mm x R Z Y o A c G g) Q := by
  refine pW_eq 3 (pc' := 108) (L' := [some (pm_r 20 0), some (pm_i v1), some (pm_i v2), some (pm_i v4), some (pm_i v4), u5]) (S' := []) (M' := (mm x R Z Y o A c G g)) (fun call n => ?_) ?_
  · refine Eq.trans (b := pm_go call ns d 65 n 108 [some (pm_r 20 0), some (pm_i v1), some (pm_i v2), some (pm_i v4), some (pm_i v4), u5] [] (mm x R Z Y o A c G g)) rfl ?_
    rfl
  refine pW_eq 1 (pc' := 111) (L' := [some (pm_r 20 0), some (pm_i v1), some (pm_i v2), some (pm_i v4), some (pm_i (v4 + pm_c (-1))), u5]) (S' := []) (M' := (mm x R Z Y o A c G g)) (fun call n => ?_) ?_
  · refine Eq.trans (b := pm_step call ns d 65 (pm_go call ns d 65 n) (.iinc 4 (-1)) 108 [some (pm_r 20 0), some (pm_i v1), some (pm_i v2), some (pm_i v4), some (pm_i v4), u5] [] (mm x R Z Y o A c G g)) rfl ?_
    refine (Eq.refl _).trans ?_
    rfl
  exact pW_eq 1 (fun call n => rfl) k
set_option maxRecDepth 20000 in
theorem b65_59 (hR : RS R) {v1 : Int32} {v2 : Int32} {v3 : Int32} {v4 : Int32} {u5 : Option pm_V}   (k1 : nI 1 = 0 → pW ns d 65 106 [some (pm_r 20 0), some (pm_i v1), some (pm_i v2), some (pm_i v3), some (pm_i v4), some (pm_i (nI 1))] [] (mm x R Z Y o A c G g) Q) (k2 : ¬ (nI 1 = 0) → pW ns d 65 90 [some (pm_r 20 0), some (pm_i v1), some (pm_i v2), some (pm_i v3), some (pm_i v4), some (pm_i (nI 1))] [] (mm x R Z Y o A c G g) Q) : pW ns d 65 59 [some (pm_r 20 0), some (pm_i v1), some (pm_i v2), some (pm_i v3), some (pm_i v4), u5] [] (mm x R Z Y o A c G g) Q := by
  exact pW_if 5 (c := nI 1 = 0) (fun call n => rfl) k1 k2
set_option maxRecDepth 20000 in
theorem t65_6 (hR : RS R) {v1 : Int32} {v2 : Int32} {v3 : Int32} {v4 : Int32} {u5 : Option pm_V}  (k1 : (v4 ≤ 0) → Q (.inl (some (pm_i v3)), (mm x R Z Y o A c G g))) (k2 : (¬ (v4 ≤ 0)) → (v2 = 0) → pW ns d 65 15 [some (pm_r 20 0), some (pm_i v1), some (pm_i v2), some (pm_i v3), some (pm_i v4), u5] [] (mm x R Z Y o A c G g) Q) (k3 : (¬ (v4 ≤ 0)) → (¬ (v2 = 0)) → (v2 = nI 3) → pW ns d 65 38 [some (pm_r 20 0), some (pm_i v1), some (pm_i v2), some (pm_i v3), some (pm_i v4), u5] [] (mm x R Z Y o A c G g) Q) (k4 : (¬ (v4 ≤ 0)) → (¬ (v2 = 0)) → (¬ (v2 = nI 3)) → pW ns d 65 67 [some (pm_r 20 0), some (pm_i v1), some (pm_i v2), some (pm_i v3), some (pm_i v4), u5] [] (mm x R Z Y o A c G g) Q) : pW ns d 65 6 [some (pm_r 20 0), some (pm_i v1), some (pm_i v2), some (pm_i v3), some (pm_i v4), u5] [] (mm x R Z Y o A c G g) Q := by
  refine b65_6 hR  (fun h1 => ?_) (fun h1 => ?_)
  · skip
    exact b65_114 hR   (k1 h1)
  · skip
    refine b65_11 hR   (fun h2 => ?_) (fun h2 => ?_)
    · skip
      exact (k2 h1 h2)
    · skip
      refine b65_33 hR   (fun h3 => ?_) (fun h3 => ?_)
      · skip
        exact (k3 h1 h2 h3)
      · skip
        exact (k4 h1 h2 h3)
set_option maxRecDepth 20000 in
theorem t65_11 (hR : RS R) {v1 : Int32} {v2 : Int32} {v3 : Int32} {v4 : Int32} {u5 : Option pm_V}  (k1 : (v2 = 0) → pW ns d 65 15 [some (pm_r 20 0), some (pm_i v1), some (pm_i v2), some (pm_i v3), some (pm_i v4), u5] [] (mm x R Z Y o A c G g) Q) (k2 : (¬ (v2 = 0)) → (v2 = nI 3) → pW ns d 65 38 [some (pm_r 20 0), some (pm_i v1), some (pm_i v2), some (pm_i v3), some (pm_i v4), u5] [] (mm x R Z Y o A c G g) Q) (k3 : (¬ (v2 = 0)) → (¬ (v2 = nI 3)) → pW ns d 65 67 [some (pm_r 20 0), some (pm_i v1), some (pm_i v2), some (pm_i v3), some (pm_i v4), u5] [] (mm x R Z Y o A c G g) Q) : pW ns d 65 11 [some (pm_r 20 0), some (pm_i v1), some (pm_i v2), some (pm_i v3), some (pm_i v4), u5] [] (mm x R Z Y o A c G g) Q := by
  refine b65_11 hR  (fun h1 => ?_) (fun h1 => ?_)
  · skip
    exact (k1 h1)
  · skip
    refine b65_33 hR   (fun h2 => ?_) (fun h2 => ?_)
    · skip
      exact (k2 h1 h2)
    · skip
      exact (k3 h1 h2)
set_option maxRecDepth 20000 in
theorem t65_15 (hR : RS R) {v1 : Int32} {v2 : Int32} {v3 : Int32} {v4 : Int32} {u5 : Option pm_V} {j1 : Nat} (e1 : v4 = nI j1) (l1 : j1 < 8) (k1 : (G 21 j1 = 0) → pW ns d 65 6 [some (pm_r 20 0), some (pm_i v1), some (pm_i v2), some (pm_i v3), some (pm_i (v4 + pm_c (-1))), some (pm_i (nI 0))] [] (mm x R Z Y o A c G g) Q) (k2 : (¬ (G 21 j1 = 0)) → (G 22 j1 = v1) → pW ns d 65 6 [some (pm_r 20 0), some (pm_i v1), some (pm_i v2), some (pm_i v4), some (pm_i (v4 + pm_c (-1))), some (pm_i (nI 1))] [] (mm x R Z Y o A c G g) Q) (k3 : (¬ (G 21 j1 = 0)) → (¬ (G 22 j1 = v1)) → pW ns d 65 6 [some (pm_r 20 0), some (pm_i v1), some (pm_i v2), some (pm_i v3), some (pm_i (v4 + pm_c (-1))), some (pm_i (nI 1))] [] (mm x R Z Y o A c G g) Q) : pW ns d 65 15 [some (pm_r 20 0), some (pm_i v1), some (pm_i v2), some (pm_i v3), some (pm_i v4), u5] [] (mm x R Z Y o A c G g) Q := by
  refine b65_15 hR e1 l1 (fun h1 => ?_) (fun h1 => ?_)
  · skip
    refine b65_29 hR   (fun h2 => ?_) (fun h2 => ?_)
    · skip
      exact b65_106 hR   (k1 h1)
    · exact absurd h2 (by decide)
  · skip
    refine b65_25 hR   (fun h2 => ?_) (fun h2 => ?_)
    · exact absurd h2 (by decide)
    · skip
      refine b65_90 hR  e1 l1 (fun h3 => ?_) (fun h3 => ?_)
      · skip
        exact b65_101 hR   (k2 h1 h3)
      · skip
        exact b65_106 hR   (k3 h1 h3)
set_option maxRecDepth 20000 in
theorem t65_33 (hR : RS R) {v1 : Int32} {v2 : Int32} {v3 : Int32} {v4 : Int32} {u5 : Option pm_V}  (k1 : (v2 = nI 3) → pW ns d 65 38 [some (pm_r 20 0), some (pm_i v1), some (pm_i v2), some (pm_i v3), some (pm_i v4), u5] [] (mm x R Z Y o A c G g) Q) (k2 : (¬ (v2 = nI 3)) → pW ns d 65 67 [some (pm_r 20 0), some (pm_i v1), some (pm_i v2), some (pm_i v3), some (pm_i v4), u5] [] (mm x R Z Y o A c G g) Q) : pW ns d 65 33 [some (pm_r 20 0), some (pm_i v1), some (pm_i v2), some (pm_i v3), some (pm_i v4), u5] [] (mm x R Z Y o A c G g) Q := by
  refine b65_33 hR  (fun h1 => ?_) (fun h1 => ?_)
  · skip
    exact (k1 h1)
  · skip
    exact (k2 h1)
set_option maxRecDepth 20000 in
theorem t65_29 (hR : RS R) {v1 : Int32} {v2 : Int32} {v3 : Int32} {v4 : Int32} {u5 : Option pm_V}  (k1 : pW ns d 65 6 [some (pm_r 20 0), some (pm_i v1), some (pm_i v2), some (pm_i v3), some (pm_i (v4 + pm_c (-1))), some (pm_i (nI 0))] [] (mm x R Z Y o A c G g) Q) : pW ns d 65 29 [some (pm_r 20 0), some (pm_i v1), some (pm_i v2), some (pm_i v3), some (pm_i v4), u5] [] (mm x R Z Y o A c G g) Q := by
  refine b65_29 hR  (fun h1 => ?_) (fun h1 => ?_)
  · skip
    exact b65_106 hR   (k1 )
  · exact absurd h1 (by decide)
set_option maxRecDepth 20000 in
theorem t65_25 (hR : RS R) {v1 : Int32} {v2 : Int32} {v3 : Int32} {v4 : Int32} {u5 : Option pm_V}  (k1 : pW ns d 65 90 [some (pm_r 20 0), some (pm_i v1), some (pm_i v2), some (pm_i v3), some (pm_i v4), some (pm_i (nI 1))] [] (mm x R Z Y o A c G g) Q) : pW ns d 65 25 [some (pm_r 20 0), some (pm_i v1), some (pm_i v2), some (pm_i v3), some (pm_i v4), u5] [] (mm x R Z Y o A c G g) Q := by
  refine b65_25 hR  (fun h1 => ?_) (fun h1 => ?_)
  · exact absurd h1 (by decide)
  · skip
    exact (k1 )
set_option maxRecDepth 20000 in
theorem t65_38 (hR : RS R) {v1 : Int32} {v2 : Int32} {v3 : Int32} {v4 : Int32} {u5 : Option pm_V} {j1 : Nat} (e1 : v4 = nI j1) (l1 : j1 < 8) (k1 : (G 21 j1 = nI 3) → (G 31 j1 = 0) → (G 22 j1 = v1) → pW ns d 65 6 [some (pm_r 20 0), some (pm_i v1), some (pm_i v2), some (pm_i v4), some (pm_i (v4 + pm_c (-1))), some (pm_i (nI 1))] [] (mm x R Z Y o A c G g) Q) (k2 : (G 21 j1 = nI 3) → (G 31 j1 = 0) → (¬ (G 22 j1 = v1)) → pW ns d 65 6 [some (pm_r 20 0), some (pm_i v1), some (pm_i v2), some (pm_i v3), some (pm_i (v4 + pm_c (-1))), some (pm_i (nI 1))] [] (mm x R Z Y o A c G g) Q) (k3 : (G 21 j1 = nI 3) → (¬ (G 31 j1 = 0)) → pW ns d 65 6 [some (pm_r 20 0), some (pm_i v1), some (pm_i v2), some (pm_i v3), some (pm_i (v4 + pm_c (-1))), some (pm_i (nI 0))] [] (mm x R Z Y o A c G g) Q) (k4 : (¬ (G 21 j1 = nI 3)) → pW ns d 65 6 [some (pm_r 20 0), some (pm_i v1), some (pm_i v2), some (pm_i v3), some (pm_i (v4 + pm_c (-1))), some (pm_i (nI 0))] [] (mm x R Z Y o A c G g) Q) : pW ns d 65 38 [some (pm_r 20 0), some (pm_i v1), some (pm_i v2), some (pm_i v3), some (pm_i v4), u5] [] (mm x R Z Y o A c G g) Q := by
  refine b65_38 hR e1 l1 (fun h1 => ?_) (fun h1 => ?_)
  · skip
    refine b65_49 hR  e1 l1 (fun h2 => ?_) (fun h2 => ?_)
    · skip
      refine b65_59 hR   (fun h3 => ?_) (fun h3 => ?_)
      · exact absurd h3 (by decide)
      · skip
        refine b65_90 hR  e1 l1 (fun h4 => ?_) (fun h4 => ?_)
        · skip
          exact b65_101 hR   (k1 h1 h2 h4)
        · skip
          exact b65_106 hR   (k2 h1 h2 h4)
    · skip
      refine b65_63 hR   (fun h3 => ?_) (fun h3 => ?_)
      · skip
        exact b65_106 hR   (k3 h1 h2)
      · exact absurd h3 (by decide)
  · skip
    refine b65_63 hR   (fun h2 => ?_) (fun h2 => ?_)
    · skip
      exact b65_106 hR   (k4 h1)
    · exact absurd h2 (by decide)
set_option maxRecDepth 20000 in
theorem t65_67 (hR : RS R) {v1 : Int32} {v2 : Int32} {v3 : Int32} {v4 : Int32} {u5 : Option pm_V} {j1 : Nat} (e1 : v4 = nI j1) (l1 : j1 < 8) (k1 : (G 21 j1 = v2) → (G 22 j1 = v1) → pW ns d 65 6 [some (pm_r 20 0), some (pm_i v1), some (pm_i v2), some (pm_i v4), some (pm_i (v4 + pm_c (-1))), some (pm_i (nI 1))] [] (mm x R Z Y o A c G g) Q) (k2 : (G 21 j1 = v2) → (¬ (G 22 j1 = v1)) → pW ns d 65 6 [some (pm_r 20 0), some (pm_i v1), some (pm_i v2), some (pm_i v3), some (pm_i (v4 + pm_c (-1))), some (pm_i (nI 1))] [] (mm x R Z Y o A c G g) Q) (k3 : (¬ (G 21 j1 = v2)) → pW ns d 65 6 [some (pm_r 20 0), some (pm_i v1), some (pm_i v2), some (pm_i v3), some (pm_i (v4 + pm_c (-1))), some (pm_i (nI 0))] [] (mm x R Z Y o A c G g) Q) : pW ns d 65 67 [some (pm_r 20 0), some (pm_i v1), some (pm_i v2), some (pm_i v3), some (pm_i v4), u5] [] (mm x R Z Y o A c G g) Q := by
  refine b65_67 hR e1 l1 (fun h1 => ?_) (fun h1 => ?_)
  · skip
    refine b65_78 hR   (fun h2 => ?_) (fun h2 => ?_)
    · exact absurd h2 (by decide)
    · skip
      refine b65_90 hR  e1 l1 (fun h3 => ?_) (fun h3 => ?_)
      · skip
        exact b65_101 hR   (k1 h1 h3)
      · skip
        exact b65_106 hR   (k2 h1 h3)
  · skip
    refine b65_82 hR   (fun h2 => ?_) (fun h2 => ?_)
    · skip
      exact b65_106 hR   (k3 h1)
    · exact absurd h2 (by decide)
set_option maxRecDepth 20000 in
theorem t65_90 (hR : RS R) {v1 : Int32} {v2 : Int32} {v3 : Int32} {v4 : Int32} {u5 : Option pm_V} {j1 : Nat} (e1 : v4 = nI j1) (l1 : j1 < 8) (k1 : (G 22 j1 = v1) → pW ns d 65 6 [some (pm_r 20 0), some (pm_i v1), some (pm_i v2), some (pm_i v4), some (pm_i (v4 + pm_c (-1))), u5] [] (mm x R Z Y o A c G g) Q) (k2 : (¬ (G 22 j1 = v1)) → pW ns d 65 6 [some (pm_r 20 0), some (pm_i v1), some (pm_i v2), some (pm_i v3), some (pm_i (v4 + pm_c (-1))), u5] [] (mm x R Z Y o A c G g) Q) : pW ns d 65 90 [some (pm_r 20 0), some (pm_i v1), some (pm_i v2), some (pm_i v3), some (pm_i v4), u5] [] (mm x R Z Y o A c G g) Q := by
  refine b65_90 hR e1 l1 (fun h1 => ?_) (fun h1 => ?_)
  · skip
    exact b65_101 hR   (k1 h1)
  · skip
    exact b65_106 hR   (k2 h1)
set_option maxRecDepth 20000 in
theorem t65_49 (hR : RS R) {v1 : Int32} {v2 : Int32} {v3 : Int32} {v4 : Int32} {u5 : Option pm_V} {j1 : Nat} (e1 : v4 = nI j1) (l1 : j1 < 8) (k1 : (G 31 j1 = 0) → (G 22 j1 = v1) → pW ns d 65 6 [some (pm_r 20 0), some (pm_i v1), some (pm_i v2), some (pm_i v4), some (pm_i (v4 + pm_c (-1))), some (pm_i (nI 1))] [] (mm x R Z Y o A c G g) Q) (k2 : (G 31 j1 = 0) → (¬ (G 22 j1 = v1)) → pW ns d 65 6 [some (pm_r 20 0), some (pm_i v1), some (pm_i v2), some (pm_i v3), some (pm_i (v4 + pm_c (-1))), some (pm_i (nI 1))] [] (mm x R Z Y o A c G g) Q) (k3 : (¬ (G 31 j1 = 0)) → pW ns d 65 6 [some (pm_r 20 0), some (pm_i v1), some (pm_i v2), some (pm_i v3), some (pm_i (v4 + pm_c (-1))), some (pm_i (nI 0))] [] (mm x R Z Y o A c G g) Q) : pW ns d 65 49 [some (pm_r 20 0), some (pm_i v1), some (pm_i v2), some (pm_i v3), some (pm_i v4), u5] [] (mm x R Z Y o A c G g) Q := by
  refine b65_49 hR e1 l1 (fun h1 => ?_) (fun h1 => ?_)
  · skip
    refine b65_59 hR   (fun h2 => ?_) (fun h2 => ?_)
    · exact absurd h2 (by decide)
    · skip
      refine b65_90 hR  e1 l1 (fun h3 => ?_) (fun h3 => ?_)
      · skip
        exact b65_101 hR   (k1 h1 h3)
      · skip
        exact b65_106 hR   (k2 h1 h3)
  · skip
    refine b65_63 hR   (fun h2 => ?_) (fun h2 => ?_)
    · skip
      exact b65_106 hR   (k3 h1)
    · exact absurd h2 (by decide)
set_option maxRecDepth 20000 in
theorem t65_63 (hR : RS R) {v1 : Int32} {v2 : Int32} {v3 : Int32} {v4 : Int32} {u5 : Option pm_V}  (k1 : pW ns d 65 6 [some (pm_r 20 0), some (pm_i v1), some (pm_i v2), some (pm_i v3), some (pm_i (v4 + pm_c (-1))), some (pm_i (nI 0))] [] (mm x R Z Y o A c G g) Q) : pW ns d 65 63 [some (pm_r 20 0), some (pm_i v1), some (pm_i v2), some (pm_i v3), some (pm_i v4), u5] [] (mm x R Z Y o A c G g) Q := by
  refine b65_63 hR  (fun h1 => ?_) (fun h1 => ?_)
  · skip
    exact b65_106 hR   (k1 )
  · exact absurd h1 (by decide)
set_option maxRecDepth 20000 in
theorem t65_78 (hR : RS R) {v1 : Int32} {v2 : Int32} {v3 : Int32} {v4 : Int32} {u5 : Option pm_V}  (k1 : pW ns d 65 90 [some (pm_r 20 0), some (pm_i v1), some (pm_i v2), some (pm_i v3), some (pm_i v4), some (pm_i (nI 1))] [] (mm x R Z Y o A c G g) Q) : pW ns d 65 78 [some (pm_r 20 0), some (pm_i v1), some (pm_i v2), some (pm_i v3), some (pm_i v4), u5] [] (mm x R Z Y o A c G g) Q := by
  refine b65_78 hR  (fun h1 => ?_) (fun h1 => ?_)
  · exact absurd h1 (by decide)
  · skip
    exact (k1 )
set_option maxRecDepth 20000 in
theorem t65_82 (hR : RS R) {v1 : Int32} {v2 : Int32} {v3 : Int32} {v4 : Int32} {u5 : Option pm_V}  (k1 : pW ns d 65 6 [some (pm_r 20 0), some (pm_i v1), some (pm_i v2), some (pm_i v3), some (pm_i (v4 + pm_c (-1))), some (pm_i (nI 0))] [] (mm x R Z Y o A c G g) Q) : pW ns d 65 82 [some (pm_r 20 0), some (pm_i v1), some (pm_i v2), some (pm_i v3), some (pm_i v4), u5] [] (mm x R Z Y o A c G g) Q := by
  refine b65_82 hR  (fun h1 => ?_) (fun h1 => ?_)
  · skip
    exact b65_106 hR   (k1 )
  · exact absurd h1 (by decide)
set_option maxRecDepth 20000 in
theorem t65_59 (hR : RS R) {v1 : Int32} {v2 : Int32} {v3 : Int32} {v4 : Int32} {u5 : Option pm_V}  (k1 : pW ns d 65 90 [some (pm_r 20 0), some (pm_i v1), some (pm_i v2), some (pm_i v3), some (pm_i v4), some (pm_i (nI 1))] [] (mm x R Z Y o A c G g) Q) : pW ns d 65 59 [some (pm_r 20 0), some (pm_i v1), some (pm_i v2), some (pm_i v3), some (pm_i v4), u5] [] (mm x R Z Y o A c G g) Q := by
  refine b65_59 hR  (fun h1 => ?_) (fun h1 => ?_)
  · exact absurd h1 (by decide)
  · skip
    exact (k1 )
/-! 66 JobLayerModel.chance -/
set_option maxRecDepth 20000 in
theorem b66_0 (hR : RS R) {v1 : Int32} {u2 : Option pm_V} {j1 : Nat} (e1 : v1 = nI j1) (l1 : j1 < 8)  (k1 : nI 3 ≤ G 34 j1 → pW ns d 66 29 [some (pm_r 20 0), some (pm_i v1), u2] [] (mm x R Z Y o A c G g) Q) (k2 : ¬ (nI 3 ≤ G 34 j1) → pW ns d 66 10 [some (pm_r 20 0), some (pm_i v1), u2] [] (mm x R Z Y o A c G g) Q) : pW ns d 66 0 [some (pm_r 20 0), some (pm_i v1), u2] [] (mm x R Z Y o A c G g) Q := by
  refine pW_eq 2 (pc' := 4) (L' := [some (pm_r 20 0), some (pm_i v1), u2]) (S' := [pm_r 34 0]) (M' := (mm x R Z Y o A c G g)) (fun call n => ?_) ?_
  · refine Eq.trans (b := pm_g (mm x R Z Y o A c G g) 20 0 (pm_go call ns d 66 n 4 [some (pm_r 20 0), some (pm_i v1), u2] [pm_a (R 20 0 14)] (mm x R Z Y o A c G g))) rfl ?_
    refine (g_ok (f := 20) (by decide) rfl).trans ?_
    exact (congrArg (fun z => pm_go call ns d 66 n 4 [some (pm_r 20 0), some (pm_i v1), u2] [pm_a z] (mm x R Z Y o A c G g)) (rs_20_14 hR))
  refine pW_eq 2 (pc' := 6) (L' := [some (pm_r 20 0), some (pm_i v1), u2]) (S' := [pm_i (G 34 j1)]) (M' := (mm x R Z Y o A c G g)) (fun call n => ?_) ?_
  · refine Eq.trans (b := pm_g (mm x R Z Y o A c G g) 34 0 (pm_ix (v1) 8 (fun jx => pm_go call ns d 66 n 6 [some (pm_r 20 0), some (pm_i v1), u2] [pm_i (G 34 jx)] (mm x R Z Y o A c G g)))) rfl ?_
    refine (g_ok (f := 34) (by decide) rfl).trans ?_
    refine (ix_ok (j := j1) e1 l1 (by decide)).trans ?_
    rfl
  exact pW_if 2 (c := nI 3 ≤ G 34 j1) (fun call n => rfl) k1 k2
set_option maxRecDepth 20000 in
theorem b66_29 (hR : RS R) {v1 : Int32} {u2 : Option pm_V} {j1 : Nat} (e1 : v1 = nI j1) (l1 : j1 < 8)  (k1 : G 34 j1 = nI 1 → pW ns d 66 41 [some (pm_r 20 0), some (pm_i v1), some (pm_i (nI 0))] [] (mm x R Z Y o A c G g) Q) (k2 : ¬ (G 34 j1 = nI 1) → pW ns d 66 86 [some (pm_r 20 0), some (pm_i v1), some (pm_i (nI 0))] [] (mm x R Z Y o A c G g) Q) : pW ns d 66 29 [some (pm_r 20 0), some (pm_i v1), u2] [] (mm x R Z Y o A c G g) Q := by
  refine pW_eq 4 (pc' := 35) (L' := [some (pm_r 20 0), some (pm_i v1), some (pm_i (nI 0))]) (S' := [pm_r 34 0]) (M' := (mm x R Z Y o A c G g)) (fun call n => ?_) ?_
  · refine Eq.trans (b := pm_g (mm x R Z Y o A c G g) 20 0 (pm_go call ns d 66 n 35 [some (pm_r 20 0), some (pm_i v1), some (pm_i (nI 0))] [pm_a (R 20 0 14)] (mm x R Z Y o A c G g))) rfl ?_
    refine (g_ok (f := 20) (by decide) rfl).trans ?_
    exact (congrArg (fun z => pm_go call ns d 66 n 35 [some (pm_r 20 0), some (pm_i v1), some (pm_i (nI 0))] [pm_a z] (mm x R Z Y o A c G g)) (rs_20_14 hR))
  refine pW_eq 2 (pc' := 37) (L' := [some (pm_r 20 0), some (pm_i v1), some (pm_i (nI 0))]) (S' := [pm_i (G 34 j1)]) (M' := (mm x R Z Y o A c G g)) (fun call n => ?_) ?_
  · refine Eq.trans (b := pm_g (mm x R Z Y o A c G g) 34 0 (pm_ix (v1) 8 (fun jx => pm_go call ns d 66 n 37 [some (pm_r 20 0), some (pm_i v1), some (pm_i (nI 0))] [pm_i (G 34 jx)] (mm x R Z Y o A c G g)))) rfl ?_
    refine (g_ok (f := 34) (by decide) rfl).trans ?_
    refine (ix_ok (j := j1) e1 l1 (by decide)).trans ?_
    rfl
  exact pW_if 2 (c := G 34 j1 = nI 1) (fun call n => rfl) k1 k2
set_option maxRecDepth 20000 in
theorem b66_10 (hR : RS R) {v1 : Int32} {u2 : Option pm_V} {j1 : Nat} {j2 : Nat} (e1 : v1 = nI j1) (l1 : j1 < 8) (e2 : ((nI 6) * v1) + (G 35 j1) = nI j2) (l2 : j2 < 48)  (k1 : G 34 j1 = nI 1 → pW ns d 66 41 [some (pm_r 20 0), some (pm_i v1), some (pm_i (G 32 j2))] [] (mm x R Z Y o A c G g) Q) (k2 : ¬ (G 34 j1 = nI 1) → pW ns d 66 86 [some (pm_r 20 0), some (pm_i v1), some (pm_i (G 32 j2))] [] (mm x R Z Y o A c G g) Q) : pW ns d 66 10 [some (pm_r 20 0), some (pm_i v1), u2] [] (mm x R Z Y o A c G g) Q := by
  refine pW_eq 2 (pc' := 14) (L' := [some (pm_r 20 0), some (pm_i v1), u2]) (S' := [pm_r 32 0]) (M' := (mm x R Z Y o A c G g)) (fun call n => ?_) ?_
  · refine Eq.trans (b := pm_g (mm x R Z Y o A c G g) 20 0 (pm_go call ns d 66 n 14 [some (pm_r 20 0), some (pm_i v1), u2] [pm_a (R 20 0 12)] (mm x R Z Y o A c G g))) rfl ?_
    refine (g_ok (f := 20) (by decide) rfl).trans ?_
    exact (congrArg (fun z => pm_go call ns d 66 n 14 [some (pm_r 20 0), some (pm_i v1), u2] [pm_a z] (mm x R Z Y o A c G g)) (rs_20_12 hR))
  refine pW_eq 5 (pc' := 22) (L' := [some (pm_r 20 0), some (pm_i v1), u2]) (S' := [pm_r 35 0, pm_i ((nI 6) * v1), pm_r 32 0]) (M' := (mm x R Z Y o A c G g)) (fun call n => ?_) ?_
  · refine Eq.trans (b := pm_g (mm x R Z Y o A c G g) 20 0 (pm_go call ns d 66 n 22 [some (pm_r 20 0), some (pm_i v1), u2] [pm_a (R 20 0 15), pm_i ((nI 6) * v1), pm_r 32 0] (mm x R Z Y o A c G g))) rfl ?_
    refine (g_ok (f := 20) (by decide) rfl).trans ?_
    exact (congrArg (fun z => pm_go call ns d 66 n 22 [some (pm_r 20 0), some (pm_i v1), u2] [pm_a z, pm_i ((nI 6) * v1), pm_r 32 0] (mm x R Z Y o A c G g)) (rs_20_15 hR))
  refine pW_eq 2 (pc' := 24) (L' := [some (pm_r 20 0), some (pm_i v1), u2]) (S' := [pm_i (G 35 j1), pm_i ((nI 6) * v1), pm_r 32 0]) (M' := (mm x R Z Y o A c G g)) (fun call n => ?_) ?_
  · refine Eq.trans (b := pm_g (mm x R Z Y o A c G g) 35 0 (pm_ix (v1) 8 (fun jx => pm_go call ns d 66 n 24 [some (pm_r 20 0), some (pm_i v1), u2] [pm_i (G 35 jx), pm_i ((nI 6) * v1), pm_r 32 0] (mm x R Z Y o A c G g)))) rfl ?_
    refine (g_ok (f := 35) (by decide) rfl).trans ?_
    refine (ix_ok (j := j1) e1 l1 (by decide)).trans ?_
    rfl
  refine pW_eq 2 (pc' := 26) (L' := [some (pm_r 20 0), some (pm_i v1), u2]) (S' := [pm_i (G 32 j2)]) (M' := (mm x R Z Y o A c G g)) (fun call n => ?_) ?_
  · refine Eq.trans (b := pm_g (mm x R Z Y o A c G g) 32 0 (pm_ix (((nI 6) * v1) + (G 35 j1)) 48 (fun jx => pm_go call ns d 66 n 26 [some (pm_r 20 0), some (pm_i v1), u2] [pm_i (G 32 jx)] (mm x R Z Y o A c G g)))) rfl ?_
    refine (g_ok (f := 32) (by decide) rfl).trans ?_
    refine (ix_ok (j := j2) e2 l2 (by decide)).trans ?_
    rfl
  refine pW_eq 4 (pc' := 35) (L' := [some (pm_r 20 0), some (pm_i v1), some (pm_i (G 32 j2))]) (S' := [pm_r 34 0]) (M' := (mm x R Z Y o A c G g)) (fun call n => ?_) ?_
  · refine Eq.trans (b := pm_g (mm x R Z Y o A c G g) 20 0 (pm_go call ns d 66 n 35 [some (pm_r 20 0), some (pm_i v1), some (pm_i (G 32 j2))] [pm_a (R 20 0 14)] (mm x R Z Y o A c G g))) rfl ?_
    refine (g_ok (f := 20) (by decide) rfl).trans ?_
    exact (congrArg (fun z => pm_go call ns d 66 n 35 [some (pm_r 20 0), some (pm_i v1), some (pm_i (G 32 j2))] [pm_a z] (mm x R Z Y o A c G g)) (rs_20_14 hR))
  refine pW_eq 2 (pc' := 37) (L' := [some (pm_r 20 0), some (pm_i v1), some (pm_i (G 32 j2))]) (S' := [pm_i (G 34 j1)]) (M' := (mm x R Z Y o A c G g)) (fun call n => ?_) ?_
  · refine Eq.trans (b := pm_g (mm x R Z Y o A c G g) 34 0 (pm_ix (v1) 8 (fun jx => pm_go call ns d 66 n 37 [some (pm_r 20 0), some (pm_i v1), some (pm_i (G 32 j2))] [pm_i (G 34 jx)] (mm x R Z Y o A c G g)))) rfl ?_
    refine (g_ok (f := 34) (by decide) rfl).trans ?_
    refine (ix_ok (j := j1) e1 l1 (by decide)).trans ?_
    rfl
  exact pW_if 2 (c := G 34 j1 = nI 1) (fun call n => rfl) k1 k2
set_option maxRecDepth 20000 in
theorem b66_41 (hR : RS R) {v1 : Int32} {v2 : Int32}   (k1 : v2 = nI 1 → pW ns d 66 46 [some (pm_r 20 0), some (pm_i v1), some (pm_i v2)] [] (mm x R Z Y o A c G g) Q) (k2 : ¬ (v2 = nI 1) → pW ns d 66 86 [some (pm_r 20 0), some (pm_i v1), some (pm_i v2)] [] (mm x R Z Y o A c G g) Q) : pW ns d 66 41 [some (pm_r 20 0), some (pm_i v1), some (pm_i v2)] [] (mm x R Z Y o A c G g) Q := by
  exact pW_if 3 (c := v2 = nI 1) (fun call n => rfl) k1 k2
set_option maxRecDepth 20000 in
theorem b66_86 (hR : RS R) {v1 : Int32} {v2 : Int32} {j1 : Nat} (e1 : v1 = nI j1) (l1 : j1 < 8)  (k1 : G 34 j1 = nI 1 → pW ns d 66 96 [some (pm_r 20 0), some (pm_i v1), some (pm_i v2)] [] (mm x R Z Y o A c G g) Q) (k2 : ¬ (G 34 j1 = nI 1) → pW ns d 66 125 [some (pm_r 20 0), some (pm_i v1), some (pm_i v2)] [] (mm x R Z Y o A c G g) Q) : pW ns d 66 86 [some (pm_r 20 0), some (pm_i v1), some (pm_i v2)] [] (mm x R Z Y o A c G g) Q := by
  refine pW_eq 2 (pc' := 90) (L' := [some (pm_r 20 0), some (pm_i v1), some (pm_i v2)]) (S' := [pm_r 34 0]) (M' := (mm x R Z Y o A c G g)) (fun call n => ?_) ?_
  · refine Eq.trans (b := pm_g (mm x R Z Y o A c G g) 20 0 (pm_go call ns d 66 n 90 [some (pm_r 20 0), some (pm_i v1), some (pm_i v2)] [pm_a (R 20 0 14)] (mm x R Z Y o A c G g))) rfl ?_
    refine (g_ok (f := 20) (by decide) rfl).trans ?_
    exact (congrArg (fun z => pm_go call ns d 66 n 90 [some (pm_r 20 0), some (pm_i v1), some (pm_i v2)] [pm_a z] (mm x R Z Y o A c G g)) (rs_20_14 hR))
  refine pW_eq 2 (pc' := 92) (L' := [some (pm_r 20 0), some (pm_i v1), some (pm_i v2)]) (S' := [pm_i (G 34 j1)]) (M' := (mm x R Z Y o A c G g)) (fun call n => ?_) ?_
  · refine Eq.trans (b := pm_g (mm x R Z Y o A c G g) 34 0 (pm_ix (v1) 8 (fun jx => pm_go call ns d 66 n 92 [some (pm_r 20 0), some (pm_i v1), some (pm_i v2)] [pm_i (G 34 jx)] (mm x R Z Y o A c G g)))) rfl ?_
    refine (g_ok (f := 34) (by decide) rfl).trans ?_
    refine (ix_ok (j := j1) e1 l1 (by decide)).trans ?_
    rfl
  exact pW_if 2 (c := G 34 j1 = nI 1) (fun call n => rfl) k1 k2
set_option maxRecDepth 20000 in
theorem b66_46 (hR : RS R) {v1 : Int32} {u2 : Option pm_V} {j1 : Nat} (e1 : v1 = nI j1) (l1 : j1 < 8)  (k1 : G 23 j1 = G 20 25 → pW ns d 66 73 [some (pm_r 20 0), some (pm_i v1), u2] [] (mm x R Z Y o A c G g) Q) (k2 : ¬ (G 23 j1 = G 20 25) → pW ns d 66 59 [some (pm_r 20 0), some (pm_i v1), u2] [] (mm x R Z Y o A c G g) Q) : pW ns d 66 46 [some (pm_r 20 0), some (pm_i v1), u2] [] (mm x R Z Y o A c G g) Q := by
  refine pW_eq 2 (pc' := 50) (L' := [some (pm_r 20 0), some (pm_i v1), u2]) (S' := [pm_r 23 0]) (M' := (mm x R Z Y o A c G g)) (fun call n => ?_) ?_
  · refine Eq.trans (b := pm_g (mm x R Z Y o A c G g) 20 0 (pm_go call ns d 66 n 50 [some (pm_r 20 0), some (pm_i v1), u2] [pm_a (R 20 0 3)] (mm x R Z Y o A c G g))) rfl ?_
    refine (g_ok (f := 20) (by decide) rfl).trans ?_
    exact (congrArg (fun z => pm_go call ns d 66 n 50 [some (pm_r 20 0), some (pm_i v1), u2] [pm_a z] (mm x R Z Y o A c G g)) (rs_20_3 hR))
  refine pW_eq 2 (pc' := 52) (L' := [some (pm_r 20 0), some (pm_i v1), u2]) (S' := [pm_i (G 23 j1)]) (M' := (mm x R Z Y o A c G g)) (fun call n => ?_) ?_
  · refine Eq.trans (b := pm_g (mm x R Z Y o A c G g) 23 0 (pm_ix (v1) 8 (fun jx => pm_go call ns d 66 n 52 [some (pm_r 20 0), some (pm_i v1), u2] [pm_i (G 23 jx)] (mm x R Z Y o A c G g)))) rfl ?_
    refine (g_ok (f := 23) (by decide) rfl).trans ?_
    refine (ix_ok (j := j1) e1 l1 (by decide)).trans ?_
    rfl
  refine pW_eq 2 (pc' := 56) (L' := [some (pm_r 20 0), some (pm_i v1), u2]) (S' := [pm_i (G 20 25), pm_i (G 23 j1)]) (M' := (mm x R Z Y o A c G g)) (fun call n => ?_) ?_
  · refine Eq.trans (b := pm_g (mm x R Z Y o A c G g) 20 0 (pm_go call ns d 66 n 56 [some (pm_r 20 0), some (pm_i v1), u2] [pm_i (G 20 25), pm_i (G 23 j1)] (mm x R Z Y o A c G g))) rfl ?_
    refine (g_ok (f := 20) (by decide) rfl).trans ?_
    rfl
  exact pW_if 1 (c := G 23 j1 = G 20 25) (fun call n => rfl) k1 k2
set_option maxRecDepth 20000 in
theorem b66_96 (hR : RS R) {u1 : Option pm_V} {v2 : Int32} {j1 : Nat} (e1 : (v2 / (nI 2)) - (nI 1) = nI j1) (l1 : j1 < 6)  (k1 : 0 < G 43 j1 → pW ns d 66 119 [some (pm_r 20 0), u1, some (pm_i v2)] [] (mm x R Z Y o A c G g) Q) (k2 : ¬ (0 < G 43 j1) → pW ns d 66 109 [some (pm_r 20 0), u1, some (pm_i v2)] [] (mm x R Z Y o A c G g) Q) : pW ns d 66 96 [some (pm_r 20 0), u1, some (pm_i v2)] [] (mm x R Z Y o A c G g) Q := by
  refine pW_eq 2 (pc' := 100) (L' := [some (pm_r 20 0), u1, some (pm_i v2)]) (S' := [pm_r 43 0]) (M' := (mm x R Z Y o A c G g)) (fun call n => ?_) ?_
  · refine Eq.trans (b := pm_g (mm x R Z Y o A c G g) 20 0 (pm_go call ns d 66 n 100 [some (pm_r 20 0), u1, some (pm_i v2)] [pm_a (R 20 0 24)] (mm x R Z Y o A c G g))) rfl ?_
    refine (g_ok (f := 20) (by decide) rfl).trans ?_
    exact (congrArg (fun z => pm_go call ns d 66 n 100 [some (pm_r 20 0), u1, some (pm_i v2)] [pm_a z] (mm x R Z Y o A c G g)) (rs_20_24 hR))
  refine pW_eq 3 (pc' := 103) (L' := [some (pm_r 20 0), u1, some (pm_i v2)]) (S' := [pm_i (v2 / (nI 2)), pm_r 43 0]) (M' := (mm x R Z Y o A c G g)) (fun call n => ?_) ?_
  · refine Eq.trans (b := if (nI 2) = 0 then none else pm_go call ns d 66 n 103 [some (pm_r 20 0), u1, some (pm_i v2)] [pm_i (v2 / (nI 2)), pm_r 43 0] (mm x R Z Y o A c G g)) rfl ?_
    refine (if_neg (by decide)).trans ?_
    rfl
  refine pW_eq 3 (pc' := 106) (L' := [some (pm_r 20 0), u1, some (pm_i v2)]) (S' := [pm_i (G 43 j1)]) (M' := (mm x R Z Y o A c G g)) (fun call n => ?_) ?_
  · refine Eq.trans (b := pm_g (mm x R Z Y o A c G g) 43 0 (pm_ix ((v2 / (nI 2)) - (nI 1)) 6 (fun jx => pm_go call ns d 66 n 106 [some (pm_r 20 0), u1, some (pm_i v2)] [pm_i (G 43 jx)] (mm x R Z Y o A c G g)))) rfl ?_
    refine (g_ok (f := 43) (by decide) rfl).trans ?_
    refine (ix_ok (j := j1) e1 l1 (by decide)).trans ?_
    rfl
  exact pW_if 1 (c := 0 < G 43 j1) (fun call n => rfl) k1 k2
set_option maxRecDepth 20000 in
theorem b66_125 (hR : RS R) {v1 : Int32} {v2 : Int32} {j1 : Nat} (e1 : v1 = nI j1) (l1 : j1 < 8)  (k1 : G 34 j1 = nI 2 → pW ns d 66 135 [some (pm_r 20 0), some (pm_i v1), some (pm_i v2)] [] (mm x R Z Y o A c G g) Q) (k2 : ¬ (G 34 j1 = nI 2) → pW ns d 66 178 [some (pm_r 20 0), some (pm_i v1), some (pm_i v2)] [] (mm x R Z Y o A c G g) Q) : pW ns d 66 125 [some (pm_r 20 0), some (pm_i v1), some (pm_i v2)] [] (mm x R Z Y o A c G g) Q := by
  refine pW_eq 2 (pc' := 129) (L' := [some (pm_r 20 0), some (pm_i v1), some (pm_i v2)]) (S' := [pm_r 34 0]) (M' := (mm x R Z Y o A c G g)) (fun call n => ?_) ?_
  · refine Eq.trans (b := pm_g (mm x R Z Y o A c G g) 20 0 (pm_go call ns d 66 n 129 [some (pm_r 20 0), some (pm_i v1), some (pm_i v2)] [pm_a (R 20 0 14)] (mm x R Z Y o A c G g))) rfl ?_
    refine (g_ok (f := 20) (by decide) rfl).trans ?_
    exact (congrArg (fun z => pm_go call ns d 66 n 129 [some (pm_r 20 0), some (pm_i v1), some (pm_i v2)] [pm_a z] (mm x R Z Y o A c G g)) (rs_20_14 hR))
  refine pW_eq 2 (pc' := 131) (L' := [some (pm_r 20 0), some (pm_i v1), some (pm_i v2)]) (S' := [pm_i (G 34 j1)]) (M' := (mm x R Z Y o A c G g)) (fun call n => ?_) ?_
  · refine Eq.trans (b := pm_g (mm x R Z Y o A c G g) 34 0 (pm_ix (v1) 8 (fun jx => pm_go call ns d 66 n 131 [some (pm_r 20 0), some (pm_i v1), some (pm_i v2)] [pm_i (G 34 jx)] (mm x R Z Y o A c G g)))) rfl ?_
    refine (g_ok (f := 34) (by decide) rfl).trans ?_
    refine (ix_ok (j := j1) e1 l1 (by decide)).trans ?_
    rfl
  exact pW_if 2 (c := G 34 j1 = nI 2) (fun call n => rfl) k1 k2
set_option maxRecDepth 20000 in
theorem b66_73 (hR : RS R) {u1 : Option pm_V} {u2 : Option pm_V}   (k1 : G 20 26 ≤ 0 → pW ns d 66 84 [some (pm_r 20 0), u1, u2] [] (mm x R Z Y o A c G g) Q) (k2 : ¬ (G 20 26 ≤ 0) → pW ns d 66 80 [some (pm_r 20 0), u1, u2] [] (mm x R Z Y o A c G g) Q) : pW ns d 66 73 [some (pm_r 20 0), u1, u2] [] (mm x R Z Y o A c G g) Q := by
  refine pW_eq 2 (pc' := 77) (L' := [some (pm_r 20 0), u1, u2]) (S' := [pm_i (G 20 26)]) (M' := (mm x R Z Y o A c G g)) (fun call n => ?_) ?_
  · refine Eq.trans (b := pm_g (mm x R Z Y o A c G g) 20 0 (pm_go call ns d 66 n 77 [some (pm_r 20 0), u1, u2] [pm_i (G 20 26)] (mm x R Z Y o A c G g))) rfl ?_
    refine (g_ok (f := 20) (by decide) rfl).trans ?_
    rfl
  exact pW_if 1 (c := G 20 26 ≤ 0) (fun call n => rfl) k1 k2
set_option maxRecDepth 20000 in
theorem b66_59 (hR : RS R) {v1 : Int32} {u2 : Option pm_V}  {x2 : Nat} {o2 : Int64} {A2 : Nat → Nat → Nat → Int32} {c2 : Nat → Int64} {G2 : Nat → Nat → Int32} {g2 : Nat → Int64} {y : Int32} (hE : pE ns d 64 [pm_r 20 0, pm_i v1] (mm x R Z Y o A c G g) (.inl (some (pm_i y)), (mm x2 R Z Y o2 A2 c2 G2 g2))) (k : pW ns d 66 64 [some (pm_r 20 0), some (pm_i v1), u2] [pm_i y] (mm x2 R Z Y o2 A2 c2 G2 g2) Q) : pW ns d 66 59 [some (pm_r 20 0), some (pm_i v1), u2] [] (mm x R Z Y o A c G g) Q := by
  refine pW_call (pc' := 61) (r := []) (L' := [some (pm_r 20 0), some (pm_i v1), u2]) 3 (fun call n => ?_) hE k
  exact Eq.trans (b := pm_g (mm x R Z Y o A c G g) 20 0 (pm_cl call 66 (pm_go call ns d 66 n) 61 64 [pm_r 20 0, pm_i v1] [] [some (pm_r 20 0), some (pm_i v1), u2] (mm x R Z Y o A c G g))) rfl (g_ok (f := 20) (by decide) rfl)
set_option maxRecDepth 20000 in
theorem b66_119 (hR : RS R) {u0 : Option pm_V} {u1 : Option pm_V} {u2 : Option pm_V}   (k : Q (.inl (some (pm_i (nI 1))), (mm x R Z Y o A c G g))) : pW ns d 66 119 [u0, u1, u2] [] (mm x R Z Y o A c G g) Q := by
  refine pW_ret 3 (fun call n => ?_) k
  rfl
set_option maxRecDepth 20000 in
theorem b66_109 (hR : RS R) {u1 : Option pm_V} {v2 : Int32}  {x2 : Nat} {o2 : Int64} {A2 : Nat → Nat → Nat → Int32} {c2 : Nat → Int64} {G2 : Nat → Nat → Int32} {g2 : Nat → Int64} {y : Int32} (hE : pE ns d 49 [pm_r 20 0, pm_i (v2 + (nI 1))] (mm x R Z Y o A c G g) (.inl (some (pm_i y)), (mm x2 R Z Y o2 A2 c2 G2 g2))) (k : pW ns d 66 116 [some (pm_r 20 0), u1, some (pm_i v2)] [pm_i y] (mm x2 R Z Y o2 A2 c2 G2 g2) Q) : pW ns d 66 109 [some (pm_r 20 0), u1, some (pm_i v2)] [] (mm x R Z Y o A c G g) Q := by
  refine pW_call (pc' := 113) (r := []) (L' := [some (pm_r 20 0), u1, some (pm_i v2)]) 5 (fun call n => ?_) hE k
  exact Eq.trans (b := pm_g (mm x R Z Y o A c G g) 20 0 (pm_cl call 66 (pm_go call ns d 66 n) 113 49 [pm_r 20 0, pm_i (v2 + (nI 1))] [] [some (pm_r 20 0), u1, some (pm_i v2)] (mm x R Z Y o A c G g))) rfl (g_ok (f := 20) (by decide) rfl)
set_option maxRecDepth 20000 in
theorem b66_135 (hR : RS R) {v1 : Int32} {v2 : Int32}   (k1 : v2 = nI 1 → pW ns d 66 172 [some (pm_r 20 0), some (pm_i v1), some (pm_i v2)] [] (mm x R Z Y o A c G g) Q) (k2 : ¬ (v2 = nI 1) → pW ns d 66 140 [some (pm_r 20 0), some (pm_i v1), some (pm_i v2)] [] (mm x R Z Y o A c G g) Q) : pW ns d 66 135 [some (pm_r 20 0), some (pm_i v1), some (pm_i v2)] [] (mm x R Z Y o A c G g) Q := by
  exact pW_if 3 (c := v2 = nI 1) (fun call n => rfl) k1 k2
set_option maxRecDepth 20000 in
theorem b66_178 (hR : RS R) {v1 : Int32} {u2 : Option pm_V} {j1 : Nat} (e1 : v1 = nI j1) (l1 : j1 < 8)  (k1 : G 34 j1 = nI 4 → pW ns d 66 188 [some (pm_r 20 0), some (pm_i v1), u2] [] (mm x R Z Y o A c G g) Q) (k2 : ¬ (G 34 j1 = nI 4) → pW ns d 66 190 [some (pm_r 20 0), some (pm_i v1), u2] [] (mm x R Z Y o A c G g) Q) : pW ns d 66 178 [some (pm_r 20 0), some (pm_i v1), u2] [] (mm x R Z Y o A c G g) Q := by
  refine pW_eq 2 (pc' := 182) (L' := [some (pm_r 20 0), some (pm_i v1), u2]) (S' := [pm_r 34 0]) (M' := (mm x R Z Y o A c G g)) (fun call n => ?_) ?_
  · refine Eq.trans (b := pm_g (mm x R Z Y o A c G g) 20 0 (pm_go call ns d 66 n 182 [some (pm_r 20 0), some (pm_i v1), u2] [pm_a (R 20 0 14)] (mm x R Z Y o A c G g))) rfl ?_
    refine (g_ok (f := 20) (by decide) rfl).trans ?_
    exact (congrArg (fun z => pm_go call ns d 66 n 182 [some (pm_r 20 0), some (pm_i v1), u2] [pm_a z] (mm x R Z Y o A c G g)) (rs_20_14 hR))
  refine pW_eq 2 (pc' := 184) (L' := [some (pm_r 20 0), some (pm_i v1), u2]) (S' := [pm_i (G 34 j1)]) (M' := (mm x R Z Y o A c G g)) (fun call n => ?_) ?_
  · refine Eq.trans (b := pm_g (mm x R Z Y o A c G g) 34 0 (pm_ix (v1) 8 (fun jx => pm_go call ns d 66 n 184 [some (pm_r 20 0), some (pm_i v1), u2] [pm_i (G 34 jx)] (mm x R Z Y o A c G g)))) rfl ?_
    refine (g_ok (f := 34) (by decide) rfl).trans ?_
    refine (ix_ok (j := j1) e1 l1 (by decide)).trans ?_
    rfl
  exact pW_if 2 (c := G 34 j1 = nI 4) (fun call n => rfl) k1 k2
set_option maxRecDepth 20000 in
theorem b66_84 (hR : RS R) {u0 : Option pm_V} {u1 : Option pm_V} {u2 : Option pm_V}   (k : Q (.inl (some (pm_i (nI 0))), (mm x R Z Y o A c G g))) : pW ns d 66 84 [u0, u1, u2] [] (mm x R Z Y o A c G g) Q := by
  refine pW_ret 2 (fun call n => ?_) k
  rfl
set_option maxRecDepth 20000 in
theorem b66_80 (hR : RS R) {u0 : Option pm_V} {u1 : Option pm_V} {u2 : Option pm_V}   (k : Q (.inl (some (pm_i (nI 1))), (mm x R Z Y o A c G g))) : pW ns d 66 80 [u0, u1, u2] [] (mm x R Z Y o A c G g) Q := by
  refine pW_ret 3 (fun call n => ?_) k
  rfl
set_option maxRecDepth 20000 in
theorem b66_64 (hR : RS R) {u0 : Option pm_V} {u1 : Option pm_V} {u2 : Option pm_V} {vs0 : Int32}   (k1 : vs0 = 0 → pW ns d 66 71 [u0, u1, u2] [] (mm x R Z Y o A c G g) Q) (k2 : ¬ (vs0 = 0) → pW ns d 66 67 [u0, u1, u2] [] (mm x R Z Y o A c G g) Q) : pW ns d 66 64 [u0, u1, u2] [pm_i vs0] (mm x R Z Y o A c G g) Q := by
  exact pW_if 1 (c := vs0 = 0) (fun call n => rfl) k1 k2
set_option maxRecDepth 20000 in
theorem b66_116 (hR : RS R) {u0 : Option pm_V} {u1 : Option pm_V} {u2 : Option pm_V} {vs0 : Int32}   (k1 : vs0 = 0 → pW ns d 66 119 [u0, u1, u2] [] (mm x R Z Y o A c G g) Q) (k2 : ¬ (vs0 = 0) → pW ns d 66 123 [u0, u1, u2] [] (mm x R Z Y o A c G g) Q) : pW ns d 66 116 [u0, u1, u2] [pm_i vs0] (mm x R Z Y o A c G g) Q := by
  exact pW_if 1 (c := vs0 = 0) (fun call n => rfl) k1 k2
set_option maxRecDepth 20000 in
theorem b66_172 (hR : RS R) {u0 : Option pm_V} {u1 : Option pm_V} {u2 : Option pm_V}   (k : Q (.inl (some (pm_i (nI 1))), (mm x R Z Y o A c G g))) : pW ns d 66 172 [u0, u1, u2] [] (mm x R Z Y o A c G g) Q := by
  refine pW_ret 3 (fun call n => ?_) k
  rfl
set_option maxRecDepth 20000 in
theorem b66_140 (hR : RS R) {v1 : Int32} {v2 : Int32}  {x2 : Nat} {o2 : Int64} {A2 : Nat → Nat → Nat → Int32} {c2 : Nat → Int64} {G2 : Nat → Nat → Int32} {g2 : Nat → Int64} {y : Int32} (hE : pE ns d 49 [pm_r 20 0, pm_i (v2 - (nI 1))] (mm x R Z Y o A c G g) (.inl (some (pm_i y)), (mm x2 R Z Y o2 A2 c2 G2 g2))) (k : pW ns d 66 147 [some (pm_r 20 0), some (pm_i v1), some (pm_i v2)] [pm_i y] (mm x2 R Z Y o2 A2 c2 G2 g2) Q) : pW ns d 66 140 [some (pm_r 20 0), some (pm_i v1), some (pm_i v2)] [] (mm x R Z Y o A c G g) Q := by
  refine pW_call (pc' := 144) (r := []) (L' := [some (pm_r 20 0), some (pm_i v1), some (pm_i v2)]) 5 (fun call n => ?_) hE k
  exact Eq.trans (b := pm_g (mm x R Z Y o A c G g) 20 0 (pm_cl call 66 (pm_go call ns d 66 n) 144 49 [pm_r 20 0, pm_i (v2 - (nI 1))] [] [some (pm_r 20 0), some (pm_i v1), some (pm_i v2)] (mm x R Z Y o A c G g))) rfl (g_ok (f := 20) (by decide) rfl)
set_option maxRecDepth 20000 in
theorem b66_188 (hR : RS R) {u0 : Option pm_V} {u1 : Option pm_V} {u2 : Option pm_V}   (k : Q (.inl (some (pm_i (nI 0))), (mm x R Z Y o A c G g))) : pW ns d 66 188 [u0, u1, u2] [] (mm x R Z Y o A c G g) Q := by
  refine pW_ret 2 (fun call n => ?_) k
  rfl
set_option maxRecDepth 20000 in
theorem b66_190 (hR : RS R) {v1 : Int32} {u2 : Option pm_V}  {x2 : Nat} {o2 : Int64} {A2 : Nat → Nat → Nat → Int32} {c2 : Nat → Int64} {G2 : Nat → Nat → Int32} {g2 : Nat → Int64} {y : Int32} (hE : pE ns d 65 [pm_r 20 0, pm_i v1, pm_i (nI 0)] (mm x R Z Y o A c G g) (.inl (some (pm_i y)), (mm x2 R Z Y o2 A2 c2 G2 g2))) (k : pW ns d 66 196 [some (pm_r 20 0), some (pm_i v1), u2] [pm_i y] (mm x2 R Z Y o2 A2 c2 G2 g2) Q) : pW ns d 66 190 [some (pm_r 20 0), some (pm_i v1), u2] [] (mm x R Z Y o A c G g) Q := by
  refine pW_call (pc' := 193) (r := []) (L' := [some (pm_r 20 0), some (pm_i v1), u2]) 4 (fun call n => ?_) hE k
  exact Eq.trans (b := pm_g (mm x R Z Y o A c G g) 20 0 (pm_cl call 66 (pm_go call ns d 66 n) 193 65 [pm_r 20 0, pm_i v1, pm_i (nI 0)] [] [some (pm_r 20 0), some (pm_i v1), u2] (mm x R Z Y o A c G g))) rfl (g_ok (f := 20) (by decide) rfl)
set_option maxRecDepth 20000 in
theorem b66_71 (hR : RS R) {u0 : Option pm_V} {u1 : Option pm_V} {u2 : Option pm_V}   (k : Q (.inl (some (pm_i (nI 2))), (mm x R Z Y o A c G g))) : pW ns d 66 71 [u0, u1, u2] [] (mm x R Z Y o A c G g) Q := by
  refine pW_ret 2 (fun call n => ?_) k
  rfl
set_option maxRecDepth 20000 in
theorem b66_67 (hR : RS R) {u0 : Option pm_V} {u1 : Option pm_V} {u2 : Option pm_V}   (k : Q (.inl (some (pm_i (nI 1))), (mm x R Z Y o A c G g))) : pW ns d 66 67 [u0, u1, u2] [] (mm x R Z Y o A c G g) Q := by
  refine pW_ret 3 (fun call n => ?_) k
  rfl
set_option maxRecDepth 20000 in
theorem b66_123 (hR : RS R) {u0 : Option pm_V} {u1 : Option pm_V} {u2 : Option pm_V}   (k : Q (.inl (some (pm_i (nI 0))), (mm x R Z Y o A c G g))) : pW ns d 66 123 [u0, u1, u2] [] (mm x R Z Y o A c G g) Q := by
  refine pW_ret 2 (fun call n => ?_) k
  rfl
set_option maxRecDepth 20000 in
theorem b66_147 (hR : RS R) {v1 : Int32} {v2 : Int32} {vs0 : Int32}   (k1 : vs0 = 0 → pW ns d 66 172 [some (pm_r 20 0), some (pm_i v1), some (pm_i v2)] [] (mm x R Z Y o A c G g) Q) (k2 : ¬ (vs0 = 0) → pW ns d 66 150 [some (pm_r 20 0), some (pm_i v1), some (pm_i v2)] [] (mm x R Z Y o A c G g) Q) : pW ns d 66 147 [some (pm_r 20 0), some (pm_i v1), some (pm_i v2)] [pm_i vs0] (mm x R Z Y o A c G g) Q := by
  exact pW_if 1 (c := vs0 = 0) (fun call n => rfl) k1 k2
set_option maxRecDepth 20000 in
theorem b66_196 (hR : RS R) {v1 : Int32} {u2 : Option pm_V} {vs0 : Int32}   (k1 : vs0 < 0 → pW ns d 66 226 [some (pm_r 20 0), some (pm_i v1), u2] [] (mm x R Z Y o A c G g) Q) (k2 : ¬ (vs0 < 0) → pW ns d 66 199 [some (pm_r 20 0), some (pm_i v1), u2] [] (mm x R Z Y o A c G g) Q) : pW ns d 66 196 [some (pm_r 20 0), some (pm_i v1), u2] [pm_i vs0] (mm x R Z Y o A c G g) Q := by
  exact pW_if 1 (c := vs0 < 0) (fun call n => rfl) k1 k2
set_option maxRecDepth 20000 in
theorem b66_150 (hR : RS R) {v1 : Int32} {v2 : Int32} {j1 : Nat} {j2 : Nat} (e1 : (v2 / (nI 2)) - (nI 1) = nI j1) (l1 : j1 < 6) (e2 : v1 = nI j2) (l2 : j2 < 8)  (k1 : nI 12 < (G 43 j1) + (G 36 j2) → pW ns d 66 176 [some (pm_r 20 0), some (pm_i v1), some (pm_i v2)] [] (mm x R Z Y o A c G g) Q) (k2 : ¬ (nI 12 < (G 43 j1) + (G 36 j2)) → pW ns d 66 172 [some (pm_r 20 0), some (pm_i v1), some (pm_i v2)] [] (mm x R Z Y o A c G g) Q) : pW ns d 66 150 [some (pm_r 20 0), some (pm_i v1), some (pm_i v2)] [] (mm x R Z Y o A c G g) Q := by
  refine pW_eq 2 (pc' := 154) (L' := [some (pm_r 20 0), some (pm_i v1), some (pm_i v2)]) (S' := [pm_r 43 0]) (M' := (mm x R Z Y o A c G g)) (fun call n => ?_) ?_
  · refine Eq.trans (b := pm_g (mm x R Z Y o A c G g) 20 0 (pm_go call ns d 66 n 154 [some (pm_r 20 0), some (pm_i v1), some (pm_i v2)] [pm_a (R 20 0 24)] (mm x R Z Y o A c G g))) rfl ?_
    refine (g_ok (f := 20) (by decide) rfl).trans ?_
    exact (congrArg (fun z => pm_go call ns d 66 n 154 [some (pm_r 20 0), some (pm_i v1), some (pm_i v2)] [pm_a z] (mm x R Z Y o A c G g)) (rs_20_24 hR))
  refine pW_eq 3 (pc' := 157) (L' := [some (pm_r 20 0), some (pm_i v1), some (pm_i v2)]) (S' := [pm_i (v2 / (nI 2)), pm_r 43 0]) (M' := (mm x R Z Y o A c G g)) (fun call n => ?_) ?_
  · refine Eq.trans (b := if (nI 2) = 0 then none else pm_go call ns d 66 n 157 [some (pm_r 20 0), some (pm_i v1), some (pm_i v2)] [pm_i (v2 / (nI 2)), pm_r 43 0] (mm x R Z Y o A c G g)) rfl ?_
    refine (if_neg (by decide)).trans ?_
    rfl
  refine pW_eq 3 (pc' := 160) (L' := [some (pm_r 20 0), some (pm_i v1), some (pm_i v2)]) (S' := [pm_i (G 43 j1)]) (M' := (mm x R Z Y o A c G g)) (fun call n => ?_) ?_
  · refine Eq.trans (b := pm_g (mm x R Z Y o A c G g) 43 0 (pm_ix ((v2 / (nI 2)) - (nI 1)) 6 (fun jx => pm_go call ns d 66 n 160 [some (pm_r 20 0), some (pm_i v1), some (pm_i v2)] [pm_i (G 43 jx)] (mm x R Z Y o A c G g)))) rfl ?_
    refine (g_ok (f := 43) (by decide) rfl).trans ?_
    refine (ix_ok (j := j1) e1 l1 (by decide)).trans ?_
    rfl
  refine pW_eq 2 (pc' := 164) (L' := [some (pm_r 20 0), some (pm_i v1), some (pm_i v2)]) (S' := [pm_r 36 0, pm_i (G 43 j1)]) (M' := (mm x R Z Y o A c G g)) (fun call n => ?_) ?_
  · refine Eq.trans (b := pm_g (mm x R Z Y o A c G g) 20 0 (pm_go call ns d 66 n 164 [some (pm_r 20 0), some (pm_i v1), some (pm_i v2)] [pm_a (R 20 0 16), pm_i (G 43 j1)] (mm x R Z Y o A c G g))) rfl ?_
    refine (g_ok (f := 20) (by decide) rfl).trans ?_
    exact (congrArg (fun z => pm_go call ns d 66 n 164 [some (pm_r 20 0), some (pm_i v1), some (pm_i v2)] [pm_a z, pm_i (G 43 j1)] (mm x R Z Y o A c G g)) (rs_20_16 hR))
  refine pW_eq 2 (pc' := 166) (L' := [some (pm_r 20 0), some (pm_i v1), some (pm_i v2)]) (S' := [pm_i (G 36 j2), pm_i (G 43 j1)]) (M' := (mm x R Z Y o A c G g)) (fun call n => ?_) ?_
  · refine Eq.trans (b := pm_g (mm x R Z Y o A c G g) 36 0 (pm_ix (v1) 8 (fun jx => pm_go call ns d 66 n 166 [some (pm_r 20 0), some (pm_i v1), some (pm_i v2)] [pm_i (G 36 jx), pm_i (G 43 j1)] (mm x R Z Y o A c G g)))) rfl ?_
    refine (g_ok (f := 36) (by decide) rfl).trans ?_
    refine (ix_ok (j := j2) e2 l2 (by decide)).trans ?_
    rfl
  exact pW_if 3 (c := nI 12 < (G 43 j1) + (G 36 j2)) (fun call n => rfl) k1 k2
set_option maxRecDepth 20000 in
theorem b66_226 (hR : RS R) {u0 : Option pm_V} {u1 : Option pm_V} {u2 : Option pm_V}   (k : Q (.inl (some (pm_i (nI 1))), (mm x R Z Y o A c G g))) : pW ns d 66 226 [u0, u1, u2] [] (mm x R Z Y o A c G g) Q := by
  refine pW_ret 3 (fun call n => ?_) k
  rfl
set_option maxRecDepth 20000 in
theorem b66_199 (hR : RS R) {v1 : Int32} {u2 : Option pm_V}  {x2 : Nat} {o2 : Int64} {A2 : Nat → Nat → Nat → Int32} {c2 : Nat → Int64} {G2 : Nat → Nat → Int32} {g2 : Nat → Int64} {y : Int32} (hE : pE ns d 65 [pm_r 20 0, pm_i v1, pm_i (nI 4)] (mm x R Z Y o A c G g) (.inl (some (pm_i y)), (mm x2 R Z Y o2 A2 c2 G2 g2))) (k : pW ns d 66 205 [some (pm_r 20 0), some (pm_i v1), u2] [pm_i y] (mm x2 R Z Y o2 A2 c2 G2 g2) Q) : pW ns d 66 199 [some (pm_r 20 0), some (pm_i v1), u2] [] (mm x R Z Y o A c G g) Q := by
  refine pW_call (pc' := 202) (r := []) (L' := [some (pm_r 20 0), some (pm_i v1), u2]) 4 (fun call n => ?_) hE k
  exact Eq.trans (b := pm_g (mm x R Z Y o A c G g) 20 0 (pm_cl call 66 (pm_go call ns d 66 n) 202 65 [pm_r 20 0, pm_i v1, pm_i (nI 4)] [] [some (pm_r 20 0), some (pm_i v1), u2] (mm x R Z Y o A c G g))) rfl (g_ok (f := 20) (by decide) rfl)
set_option maxRecDepth 20000 in
theorem b66_176 (hR : RS R) {u0 : Option pm_V} {u1 : Option pm_V} {u2 : Option pm_V}   (k : Q (.inl (some (pm_i (nI 0))), (mm x R Z Y o A c G g))) : pW ns d 66 176 [u0, u1, u2] [] (mm x R Z Y o A c G g) Q := by
  refine pW_ret 2 (fun call n => ?_) k
  rfl
set_option maxRecDepth 20000 in
theorem b66_205 (hR : RS R) {v1 : Int32} {u2 : Option pm_V} {vs0 : Int32}   (k1 : 0 < vs0 → pW ns d 66 226 [some (pm_r 20 0), some (pm_i v1), u2] [] (mm x R Z Y o A c G g) Q) (k2 : ¬ (0 < vs0) → pW ns d 66 208 [some (pm_r 20 0), some (pm_i v1), u2] [] (mm x R Z Y o A c G g) Q) : pW ns d 66 205 [some (pm_r 20 0), some (pm_i v1), u2] [pm_i vs0] (mm x R Z Y o A c G g) Q := by
  exact pW_if 1 (c := 0 < vs0) (fun call n => rfl) k1 k2
set_option maxRecDepth 20000 in
theorem b66_208 (hR : RS R) {v1 : Int32} {u2 : Option pm_V} {j1 : Nat} (e1 : v1 = nI j1) (l1 : j1 < 8)  (k1 : G 38 j1 = 0 → pW ns d 66 230 [some (pm_r 20 0), some (pm_i v1), u2] [] (mm x R Z Y o A c G g) Q) (k2 : ¬ (G 38 j1 = 0) → pW ns d 66 217 [some (pm_r 20 0), some (pm_i v1), u2] [] (mm x R Z Y o A c G g) Q) : pW ns d 66 208 [some (pm_r 20 0), some (pm_i v1), u2] [] (mm x R Z Y o A c G g) Q := by
  refine pW_eq 2 (pc' := 212) (L' := [some (pm_r 20 0), some (pm_i v1), u2]) (S' := [pm_r 38 0]) (M' := (mm x R Z Y o A c G g)) (fun call n => ?_) ?_
  · refine Eq.trans (b := pm_g (mm x R Z Y o A c G g) 20 0 (pm_go call ns d 66 n 212 [some (pm_r 20 0), some (pm_i v1), u2] [pm_a (R 20 0 18)] (mm x R Z Y o A c G g))) rfl ?_
    refine (g_ok (f := 20) (by decide) rfl).trans ?_
    exact (congrArg (fun z => pm_go call ns d 66 n 212 [some (pm_r 20 0), some (pm_i v1), u2] [pm_a z] (mm x R Z Y o A c G g)) (rs_20_18 hR))
  refine pW_eq 2 (pc' := 214) (L' := [some (pm_r 20 0), some (pm_i v1), u2]) (S' := [pm_i (G 38 j1)]) (M' := (mm x R Z Y o A c G g)) (fun call n => ?_) ?_
  · refine Eq.trans (b := pm_g (mm x R Z Y o A c G g) 38 0 (pm_ix (v1) 8 (fun jx => pm_go call ns d 66 n 214 [some (pm_r 20 0), some (pm_i v1), u2] [pm_i (G 38 jx)] (mm x R Z Y o A c G g)))) rfl ?_
    refine (g_ok (f := 38) (by decide) rfl).trans ?_
    refine (ix_ok (j := j1) e1 l1 (by decide)).trans ?_
    rfl
  exact pW_if 1 (c := G 38 j1 = 0) (fun call n => rfl) k1 k2
set_option maxRecDepth 20000 in
theorem b66_230 (hR : RS R) {u0 : Option pm_V} {u1 : Option pm_V} {u2 : Option pm_V}   (k : Q (.inl (some (pm_i (nI 0))), (mm x R Z Y o A c G g))) : pW ns d 66 230 [u0, u1, u2] [] (mm x R Z Y o A c G g) Q := by
  refine pW_ret 2 (fun call n => ?_) k
  rfl
set_option maxRecDepth 20000 in
theorem b66_217 (hR : RS R) {v1 : Int32} {u2 : Option pm_V}  {x2 : Nat} {o2 : Int64} {A2 : Nat → Nat → Nat → Int32} {c2 : Nat → Int64} {G2 : Nat → Nat → Int32} {g2 : Nat → Int64} {y : Int32} (hE : pE ns d 65 [pm_r 20 0, pm_i v1, pm_i (nI 3)] (mm x R Z Y o A c G g) (.inl (some (pm_i y)), (mm x2 R Z Y o2 A2 c2 G2 g2))) (k : pW ns d 66 223 [some (pm_r 20 0), some (pm_i v1), u2] [pm_i y] (mm x2 R Z Y o2 A2 c2 G2 g2) Q) : pW ns d 66 217 [some (pm_r 20 0), some (pm_i v1), u2] [] (mm x R Z Y o A c G g) Q := by
  refine pW_call (pc' := 220) (r := []) (L' := [some (pm_r 20 0), some (pm_i v1), u2]) 4 (fun call n => ?_) hE k
  exact Eq.trans (b := pm_g (mm x R Z Y o A c G g) 20 0 (pm_cl call 66 (pm_go call ns d 66 n) 220 65 [pm_r 20 0, pm_i v1, pm_i (nI 3)] [] [some (pm_r 20 0), some (pm_i v1), u2] (mm x R Z Y o A c G g))) rfl (g_ok (f := 20) (by decide) rfl)
set_option maxRecDepth 20000 in
theorem b66_223 (hR : RS R) {u0 : Option pm_V} {u1 : Option pm_V} {u2 : Option pm_V} {vs0 : Int32}   (k1 : vs0 ≤ 0 → pW ns d 66 230 [u0, u1, u2] [] (mm x R Z Y o A c G g) Q) (k2 : ¬ (vs0 ≤ 0) → pW ns d 66 226 [u0, u1, u2] [] (mm x R Z Y o A c G g) Q) : pW ns d 66 223 [u0, u1, u2] [pm_i vs0] (mm x R Z Y o A c G g) Q := by
  exact pW_if 1 (c := vs0 ≤ 0) (fun call n => rfl) k1 k2
set_option maxRecDepth 20000 in
theorem t66_0 (hR : RS R) {v1 : Int32} {u2 : Option pm_V} {j1 : Nat} (e1 : v1 = nI j1) (l1 : j1 < 8) (k1 : (nI 3 ≤ G 34 j1) → (G 34 j1 = nI 1) → (G 34 j1 = nI 1) → pW ns d 66 96 [some (pm_r 20 0), some (pm_i v1), some (pm_i (nI 0))] [] (mm x R Z Y o A c G g) Q) (k2 : (nI 3 ≤ G 34 j1) → (G 34 j1 = nI 1) → (¬ (G 34 j1 = nI 1)) → (G 34 j1 = nI 2) → pW ns d 66 140 [some (pm_r 20 0), some (pm_i v1), some (pm_i (nI 0))] [] (mm x R Z Y o A c G g) Q) (k3 : (nI 3 ≤ G 34 j1) → (G 34 j1 = nI 1) → (¬ (G 34 j1 = nI 1)) → (¬ (G 34 j1 = nI 2)) → (G 34 j1 = nI 4) → Q (.inl (some (pm_i (nI 0))), (mm x R Z Y o A c G g))) (k4 : (nI 3 ≤ G 34 j1) → (G 34 j1 = nI 1) → (¬ (G 34 j1 = nI 1)) → (¬ (G 34 j1 = nI 2)) → (¬ (G 34 j1 = nI 4)) → pW ns d 66 190 [some (pm_r 20 0), some (pm_i v1), some (pm_i (nI 0))] [] (mm x R Z Y o A c G g) Q) (k5 : (nI 3 ≤ G 34 j1) → (¬ (G 34 j1 = nI 1)) → (G 34 j1 = nI 1) → pW ns d 66 96 [some (pm_r 20 0), some (pm_i v1), some (pm_i (nI 0))] [] (mm x R Z Y o A c G g) Q) (k6 : (nI 3 ≤ G 34 j1) → (¬ (G 34 j1 = nI 1)) → (¬ (G 34 j1 = nI 1)) → (G 34 j1 = nI 2) → pW ns d 66 140 [some (pm_r 20 0), some (pm_i v1), some (pm_i (nI 0))] [] (mm x R Z Y o A c G g) Q) (k7 : (nI 3 ≤ G 34 j1) → (¬ (G 34 j1 = nI 1)) → (¬ (G 34 j1 = nI 1)) → (¬ (G 34 j1 = nI 2)) → (G 34 j1 = nI 4) → Q (.inl (some (pm_i (nI 0))), (mm x R Z Y o A c G g))) (k8 : (nI 3 ≤ G 34 j1) → (¬ (G 34 j1 = nI 1)) → (¬ (G 34 j1 = nI 1)) → (¬ (G 34 j1 = nI 2)) → (¬ (G 34 j1 = nI 4)) → pW ns d 66 190 [some (pm_r 20 0), some (pm_i v1), some (pm_i (nI 0))] [] (mm x R Z Y o A c G g) Q) (k9 : (¬ (nI 3 ≤ G 34 j1)) → pW ns d 66 10 [some (pm_r 20 0), some (pm_i v1), u2] [] (mm x R Z Y o A c G g) Q) : pW ns d 66 0 [some (pm_r 20 0), some (pm_i v1), u2] [] (mm x R Z Y o A c G g) Q := by
  refine b66_0 hR e1 l1 (fun h1 => ?_) (fun h1 => ?_)
  · skip
    refine b66_29 hR  e1 l1 (fun h2 => ?_) (fun h2 => ?_)
    · skip
      refine b66_41 hR   (fun h3 => ?_) (fun h3 => ?_)
      · exact absurd h3 (by decide)
      · skip
        refine b66_86 hR  e1 l1 (fun h4 => ?_) (fun h4 => ?_)
        · skip
          exact (k1 h1 h2 h4)
        · skip
          refine b66_125 hR  e1 l1 (fun h5 => ?_) (fun h5 => ?_)
          · skip
            refine b66_135 hR   (fun h6 => ?_) (fun h6 => ?_)
            · exact absurd h6 (by decide)
            · skip
              exact (k2 h1 h2 h4 h5)
          · skip
            refine b66_178 hR  e1 l1 (fun h6 => ?_) (fun h6 => ?_)
            · skip
              exact b66_188 hR   (k3 h1 h2 h4 h5 h6)
            · skip
              exact (k4 h1 h2 h4 h5 h6)
    · skip
      refine b66_86 hR  e1 l1 (fun h3 => ?_) (fun h3 => ?_)
      · skip
        exact (k5 h1 h2 h3)
      · skip
        refine b66_125 hR  e1 l1 (fun h4 => ?_) (fun h4 => ?_)
        · skip
          refine b66_135 hR   (fun h5 => ?_) (fun h5 => ?_)
          · exact absurd h5 (by decide)
          · skip
            exact (k6 h1 h2 h3 h4)
        · skip
          refine b66_178 hR  e1 l1 (fun h5 => ?_) (fun h5 => ?_)
          · skip
            exact b66_188 hR   (k7 h1 h2 h3 h4 h5)
          · skip
            exact (k8 h1 h2 h3 h4 h5)
  · skip
    exact (k9 h1)
set_option maxRecDepth 20000 in
theorem t66_29 (hR : RS R) {v1 : Int32} {u2 : Option pm_V} {j1 : Nat} (e1 : v1 = nI j1) (l1 : j1 < 8) (k1 : (G 34 j1 = nI 1) → (G 34 j1 = nI 1) → pW ns d 66 96 [some (pm_r 20 0), some (pm_i v1), some (pm_i (nI 0))] [] (mm x R Z Y o A c G g) Q) (k2 : (G 34 j1 = nI 1) → (¬ (G 34 j1 = nI 1)) → (G 34 j1 = nI 2) → pW ns d 66 140 [some (pm_r 20 0), some (pm_i v1), some (pm_i (nI 0))] [] (mm x R Z Y o A c G g) Q) (k3 : (G 34 j1 = nI 1) → (¬ (G 34 j1 = nI 1)) → (¬ (G 34 j1 = nI 2)) → (G 34 j1 = nI 4) → Q (.inl (some (pm_i (nI 0))), (mm x R Z Y o A c G g))) (k4 : (G 34 j1 = nI 1) → (¬ (G 34 j1 = nI 1)) → (¬ (G 34 j1 = nI 2)) → (¬ (G 34 j1 = nI 4)) → pW ns d 66 190 [some (pm_r 20 0), some (pm_i v1), some (pm_i (nI 0))] [] (mm x R Z Y o A c G g) Q) (k5 : (¬ (G 34 j1 = nI 1)) → (G 34 j1 = nI 1) → pW ns d 66 96 [some (pm_r 20 0), some (pm_i v1), some (pm_i (nI 0))] [] (mm x R Z Y o A c G g) Q) (k6 : (¬ (G 34 j1 = nI 1)) → (¬ (G 34 j1 = nI 1)) → (G 34 j1 = nI 2) → pW ns d 66 140 [some (pm_r 20 0), some (pm_i v1), some (pm_i (nI 0))] [] (mm x R Z Y o A c G g) Q) (k7 : (¬ (G 34 j1 = nI 1)) → (¬ (G 34 j1 = nI 1)) → (¬ (G 34 j1 = nI 2)) → (G 34 j1 = nI 4) → Q (.inl (some (pm_i (nI 0))), (mm x R Z Y o A c G g))) (k8 : (¬ (G 34 j1 = nI 1)) → (¬ (G 34 j1 = nI 1)) → (¬ (G 34 j1 = nI 2)) → (¬ (G 34 j1 = nI 4)) → pW ns d 66 190 [some (pm_r 20 0), some (pm_i v1), some (pm_i (nI 0))] [] (mm x R Z Y o A c G g) Q) : pW ns d 66 29 [some (pm_r 20 0), some (pm_i v1), u2] [] (mm x R Z Y o A c G g) Q := by
  refine b66_29 hR e1 l1 (fun h1 => ?_) (fun h1 => ?_)
  · skip
    refine b66_41 hR   (fun h2 => ?_) (fun h2 => ?_)
    · exact absurd h2 (by decide)
    · skip
      refine b66_86 hR  e1 l1 (fun h3 => ?_) (fun h3 => ?_)
      · skip
        exact (k1 h1 h3)
      · skip
        refine b66_125 hR  e1 l1 (fun h4 => ?_) (fun h4 => ?_)
        · skip
          refine b66_135 hR   (fun h5 => ?_) (fun h5 => ?_)
          · exact absurd h5 (by decide)
          · skip
            exact (k2 h1 h3 h4)
        · skip
          refine b66_178 hR  e1 l1 (fun h5 => ?_) (fun h5 => ?_)
          · skip
            exact b66_188 hR   (k3 h1 h3 h4 h5)
          · skip
            exact (k4 h1 h3 h4 h5)
  · skip
    refine b66_86 hR  e1 l1 (fun h2 => ?_) (fun h2 => ?_)
    · skip
      exact (k5 h1 h2)
    · skip
      refine b66_125 hR  e1 l1 (fun h3 => ?_) (fun h3 => ?_)
      · skip
        refine b66_135 hR   (fun h4 => ?_) (fun h4 => ?_)
        · exact absurd h4 (by decide)
        · skip
          exact (k6 h1 h2 h3)
      · skip
        refine b66_178 hR  e1 l1 (fun h4 => ?_) (fun h4 => ?_)
        · skip
          exact b66_188 hR   (k7 h1 h2 h3 h4)
        · skip
          exact (k8 h1 h2 h3 h4)
set_option maxRecDepth 20000 in
theorem t66_10 (hR : RS R) {v1 : Int32} {u2 : Option pm_V} {j1 : Nat} {j2 : Nat} (e1 : v1 = nI j1) (l1 : j1 < 8) (e2 : ((nI 6) * v1) + (G 35 j1) = nI j2) (l2 : j2 < 48) (k1 : (G 34 j1 = nI 1) → (G 32 j2 = nI 1) → (G 23 j1 = G 20 25) → (G 20 26 ≤ 0) → Q (.inl (some (pm_i (nI 0))), (mm x R Z Y o A c G g))) (k2 : (G 34 j1 = nI 1) → (G 32 j2 = nI 1) → (G 23 j1 = G 20 25) → (¬ (G 20 26 ≤ 0)) → Q (.inl (some (pm_i (nI 1))), (mm x R Z Y o A c G g))) (k3 : (G 34 j1 = nI 1) → (G 32 j2 = nI 1) → (¬ (G 23 j1 = G 20 25)) → pW ns d 66 59 [some (pm_r 20 0), some (pm_i v1), some (pm_i (G 32 j2))] [] (mm x R Z Y o A c G g) Q) (k4 : (G 34 j1 = nI 1) → (¬ (G 32 j2 = nI 1)) → (G 34 j1 = nI 1) → pW ns d 66 96 [some (pm_r 20 0), some (pm_i v1), some (pm_i (G 32 j2))] [] (mm x R Z Y o A c G g) Q) (k5 : (G 34 j1 = nI 1) → (¬ (G 32 j2 = nI 1)) → (¬ (G 34 j1 = nI 1)) → (G 34 j1 = nI 2) → (G 32 j2 = nI 1) → Q (.inl (some (pm_i (nI 1))), (mm x R Z Y o A c G g))) (k6 : (G 34 j1 = nI 1) → (¬ (G 32 j2 = nI 1)) → (¬ (G 34 j1 = nI 1)) → (G 34 j1 = nI 2) → (¬ (G 32 j2 = nI 1)) → pW ns d 66 140 [some (pm_r 20 0), some (pm_i v1), some (pm_i (G 32 j2))] [] (mm x R Z Y o A c G g) Q) (k7 : (G 34 j1 = nI 1) → (¬ (G 32 j2 = nI 1)) → (¬ (G 34 j1 = nI 1)) → (¬ (G 34 j1 = nI 2)) → (G 34 j1 = nI 4) → Q (.inl (some (pm_i (nI 0))), (mm x R Z Y o A c G g))) (k8 : (G 34 j1 = nI 1) → (¬ (G 32 j2 = nI 1)) → (¬ (G 34 j1 = nI 1)) → (¬ (G 34 j1 = nI 2)) → (¬ (G 34 j1 = nI 4)) → pW ns d 66 190 [some (pm_r 20 0), some (pm_i v1), some (pm_i (G 32 j2))] [] (mm x R Z Y o A c G g) Q) (k9 : (¬ (G 34 j1 = nI 1)) → (G 34 j1 = nI 1) → pW ns d 66 96 [some (pm_r 20 0), some (pm_i v1), some (pm_i (G 32 j2))] [] (mm x R Z Y o A c G g) Q) (k10 : (¬ (G 34 j1 = nI 1)) → (¬ (G 34 j1 = nI 1)) → (G 34 j1 = nI 2) → (G 32 j2 = nI 1) → Q (.inl (some (pm_i (nI 1))), (mm x R Z Y o A c G g))) (k11 : (¬ (G 34 j1 = nI 1)) → (¬ (G 34 j1 = nI 1)) → (G 34 j1 = nI 2) → (¬ (G 32 j2 = nI 1)) → pW ns d 66 140 [some (pm_r 20 0), some (pm_i v1), some (pm_i (G 32 j2))] [] (mm x R Z Y o A c G g) Q) (k12 : (¬ (G 34 j1 = nI 1)) → (¬ (G 34 j1 = nI 1)) → (¬ (G 34 j1 = nI 2)) → (G 34 j1 = nI 4) → Q (.inl (some (pm_i (nI 0))), (mm x R Z Y o A c G g))) (k13 : (¬ (G 34 j1 = nI 1)) → (¬ (G 34 j1 = nI 1)) → (¬ (G 34 j1 = nI 2)) → (¬ (G 34 j1 = nI 4)) → pW ns d 66 190 [some (pm_r 20 0), some (pm_i v1), some (pm_i (G 32 j2))] [] (mm x R Z Y o A c G g) Q) : pW ns d 66 10 [some (pm_r 20 0), some (pm_i v1), u2] [] (mm x R Z Y o A c G g) Q := by
  refine b66_10 hR e1 l1 e2 l2 (fun h1 => ?_) (fun h1 => ?_)
  · skip
    refine b66_41 hR   (fun h2 => ?_) (fun h2 => ?_)
    · skip
      refine b66_46 hR  e1 l1 (fun h3 => ?_) (fun h3 => ?_)
      · skip
        refine b66_73 hR   (fun h4 => ?_) (fun h4 => ?_)
        · skip
          exact b66_84 hR   (k1 h1 h2 h3 h4)
        · skip
          exact b66_80 hR   (k2 h1 h2 h3 h4)
      · skip
        exact (k3 h1 h2 h3)
    · skip
      refine b66_86 hR  e1 l1 (fun h3 => ?_) (fun h3 => ?_)
      · skip
        exact (k4 h1 h2 h3)
      · skip
        refine b66_125 hR  e1 l1 (fun h4 => ?_) (fun h4 => ?_)
        · skip
          refine b66_135 hR   (fun h5 => ?_) (fun h5 => ?_)
          · skip
            exact b66_172 hR   (k5 h1 h2 h3 h4 h5)
          · skip
            exact (k6 h1 h2 h3 h4 h5)
        · skip
          refine b66_178 hR  e1 l1 (fun h5 => ?_) (fun h5 => ?_)
          · skip
            exact b66_188 hR   (k7 h1 h2 h3 h4 h5)
          · skip
            exact (k8 h1 h2 h3 h4 h5)
  · skip
    refine b66_86 hR  e1 l1 (fun h2 => ?_) (fun h2 => ?_)
    · skip
      exact (k9 h1 h2)
    · skip
      refine b66_125 hR  e1 l1 (fun h3 => ?_) (fun h3 => ?_)
      · skip
        refine b66_135 hR   (fun h4 => ?_) (fun h4 => ?_)
        · skip
          exact b66_172 hR   (k10 h1 h2 h3 h4)
        · skip
          exact (k11 h1 h2 h3 h4)
      · skip
        refine b66_178 hR  e1 l1 (fun h4 => ?_) (fun h4 => ?_)
        · skip
          exact b66_188 hR   (k12 h1 h2 h3 h4)
        · skip
          exact (k13 h1 h2 h3 h4)
set_option maxRecDepth 20000 in
theorem t66_41 (hR : RS R) {v1 : Int32} {v2 : Int32}  (k1 : (v2 = nI 1) → pW ns d 66 46 [some (pm_r 20 0), some (pm_i v1), some (pm_i v2)] [] (mm x R Z Y o A c G g) Q) (k2 : (¬ (v2 = nI 1)) → pW ns d 66 86 [some (pm_r 20 0), some (pm_i v1), some (pm_i v2)] [] (mm x R Z Y o A c G g) Q) : pW ns d 66 41 [some (pm_r 20 0), some (pm_i v1), some (pm_i v2)] [] (mm x R Z Y o A c G g) Q := by
  refine b66_41 hR  (fun h1 => ?_) (fun h1 => ?_)
  · skip
    exact (k1 h1)
  · skip
    exact (k2 h1)
set_option maxRecDepth 20000 in
theorem t66_86 (hR : RS R) {v1 : Int32} {v2 : Int32} {j1 : Nat} (e1 : v1 = nI j1) (l1 : j1 < 8) (k1 : (G 34 j1 = nI 1) → pW ns d 66 96 [some (pm_r 20 0), some (pm_i v1), some (pm_i v2)] [] (mm x R Z Y o A c G g) Q) (k2 : (¬ (G 34 j1 = nI 1)) → (G 34 j1 = nI 2) → (v2 = nI 1) → Q (.inl (some (pm_i (nI 1))), (mm x R Z Y o A c G g))) (k3 : (¬ (G 34 j1 = nI 1)) → (G 34 j1 = nI 2) → (¬ (v2 = nI 1)) → pW ns d 66 140 [some (pm_r 20 0), some (pm_i v1), some (pm_i v2)] [] (mm x R Z Y o A c G g) Q) (k4 : (¬ (G 34 j1 = nI 1)) → (¬ (G 34 j1 = nI 2)) → (G 34 j1 = nI 4) → Q (.inl (some (pm_i (nI 0))), (mm x R Z Y o A c G g))) (k5 : (¬ (G 34 j1 = nI 1)) → (¬ (G 34 j1 = nI 2)) → (¬ (G 34 j1 = nI 4)) → pW ns d 66 190 [some (pm_r 20 0), some (pm_i v1), some (pm_i v2)] [] (mm x R Z Y o A c G g) Q) : pW ns d 66 86 [some (pm_r 20 0), some (pm_i v1), some (pm_i v2)] [] (mm x R Z Y o A c G g) Q := by
  refine b66_86 hR e1 l1 (fun h1 => ?_) (fun h1 => ?_)
  · skip
    exact (k1 h1)
  · skip
    refine b66_125 hR  e1 l1 (fun h2 => ?_) (fun h2 => ?_)
    · skip
      refine b66_135 hR   (fun h3 => ?_) (fun h3 => ?_)
      · skip
        exact b66_172 hR   (k2 h1 h2 h3)
      · skip
        exact (k3 h1 h2 h3)
    · skip
      refine b66_178 hR  e1 l1 (fun h3 => ?_) (fun h3 => ?_)
      · skip
        exact b66_188 hR   (k4 h1 h2 h3)
      · skip
        exact (k5 h1 h2 h3)
set_option maxRecDepth 20000 in
theorem t66_46 (hR : RS R) {v1 : Int32} {u2 : Option pm_V} {j1 : Nat} (e1 : v1 = nI j1) (l1 : j1 < 8) (k1 : (G 23 j1 = G 20 25) → (G 20 26 ≤ 0) → Q (.inl (some (pm_i (nI 0))), (mm x R Z Y o A c G g))) (k2 : (G 23 j1 = G 20 25) → (¬ (G 20 26 ≤ 0)) → Q (.inl (some (pm_i (nI 1))), (mm x R Z Y o A c G g))) (k3 : (¬ (G 23 j1 = G 20 25)) → pW ns d 66 59 [some (pm_r 20 0), some (pm_i v1), u2] [] (mm x R Z Y o A c G g) Q) : pW ns d 66 46 [some (pm_r 20 0), some (pm_i v1), u2] [] (mm x R Z Y o A c G g) Q := by
  refine b66_46 hR e1 l1 (fun h1 => ?_) (fun h1 => ?_)
  · skip
    refine b66_73 hR   (fun h2 => ?_) (fun h2 => ?_)
    · skip
      exact b66_84 hR   (k1 h1 h2)
    · skip
      exact b66_80 hR   (k2 h1 h2)
  · skip
    exact (k3 h1)
set_option maxRecDepth 20000 in
theorem t66_96 (hR : RS R) {u1 : Option pm_V} {v2 : Int32} {j1 : Nat} (e1 : (v2 / (nI 2)) - (nI 1) = nI j1) (l1 : j1 < 6) (k1 : (0 < G 43 j1) → Q (.inl (some (pm_i (nI 1))), (mm x R Z Y o A c G g))) (k2 : (¬ (0 < G 43 j1)) → pW ns d 66 109 [some (pm_r 20 0), u1, some (pm_i v2)] [] (mm x R Z Y o A c G g) Q) : pW ns d 66 96 [some (pm_r 20 0), u1, some (pm_i v2)] [] (mm x R Z Y o A c G g) Q := by
  refine b66_96 hR e1 l1 (fun h1 => ?_) (fun h1 => ?_)
  · skip
    exact b66_119 hR   (k1 h1)
  · skip
    exact (k2 h1)
set_option maxRecDepth 20000 in
theorem t66_125 (hR : RS R) {v1 : Int32} {v2 : Int32} {j1 : Nat} (e1 : v1 = nI j1) (l1 : j1 < 8) (k1 : (G 34 j1 = nI 2) → (v2 = nI 1) → Q (.inl (some (pm_i (nI 1))), (mm x R Z Y o A c G g))) (k2 : (G 34 j1 = nI 2) → (¬ (v2 = nI 1)) → pW ns d 66 140 [some (pm_r 20 0), some (pm_i v1), some (pm_i v2)] [] (mm x R Z Y o A c G g) Q) (k3 : (¬ (G 34 j1 = nI 2)) → (G 34 j1 = nI 4) → Q (.inl (some (pm_i (nI 0))), (mm x R Z Y o A c G g))) (k4 : (¬ (G 34 j1 = nI 2)) → (¬ (G 34 j1 = nI 4)) → pW ns d 66 190 [some (pm_r 20 0), some (pm_i v1), some (pm_i v2)] [] (mm x R Z Y o A c G g) Q) : pW ns d 66 125 [some (pm_r 20 0), some (pm_i v1), some (pm_i v2)] [] (mm x R Z Y o A c G g) Q := by
  refine b66_125 hR e1 l1 (fun h1 => ?_) (fun h1 => ?_)
  · skip
    refine b66_135 hR   (fun h2 => ?_) (fun h2 => ?_)
    · skip
      exact b66_172 hR   (k1 h1 h2)
    · skip
      exact (k2 h1 h2)
  · skip
    refine b66_178 hR  e1 l1 (fun h2 => ?_) (fun h2 => ?_)
    · skip
      exact b66_188 hR   (k3 h1 h2)
    · skip
      exact (k4 h1 h2)
set_option maxRecDepth 20000 in
theorem t66_73 (hR : RS R) {u1 : Option pm_V} {u2 : Option pm_V}  (k1 : (G 20 26 ≤ 0) → Q (.inl (some (pm_i (nI 0))), (mm x R Z Y o A c G g))) (k2 : (¬ (G 20 26 ≤ 0)) → Q (.inl (some (pm_i (nI 1))), (mm x R Z Y o A c G g))) : pW ns d 66 73 [some (pm_r 20 0), u1, u2] [] (mm x R Z Y o A c G g) Q := by
  refine b66_73 hR  (fun h1 => ?_) (fun h1 => ?_)
  · skip
    exact b66_84 hR   (k1 h1)
  · skip
    exact b66_80 hR   (k2 h1)
set_option maxRecDepth 20000 in
theorem t66_135 (hR : RS R) {v1 : Int32} {v2 : Int32}  (k1 : (v2 = nI 1) → Q (.inl (some (pm_i (nI 1))), (mm x R Z Y o A c G g))) (k2 : (¬ (v2 = nI 1)) → pW ns d 66 140 [some (pm_r 20 0), some (pm_i v1), some (pm_i v2)] [] (mm x R Z Y o A c G g) Q) : pW ns d 66 135 [some (pm_r 20 0), some (pm_i v1), some (pm_i v2)] [] (mm x R Z Y o A c G g) Q := by
  refine b66_135 hR  (fun h1 => ?_) (fun h1 => ?_)
  · skip
    exact b66_172 hR   (k1 h1)
  · skip
    exact (k2 h1)
set_option maxRecDepth 20000 in
theorem t66_178 (hR : RS R) {v1 : Int32} {u2 : Option pm_V} {j1 : Nat} (e1 : v1 = nI j1) (l1 : j1 < 8) (k1 : (G 34 j1 = nI 4) → Q (.inl (some (pm_i (nI 0))), (mm x R Z Y o A c G g))) (k2 : (¬ (G 34 j1 = nI 4)) → pW ns d 66 190 [some (pm_r 20 0), some (pm_i v1), u2] [] (mm x R Z Y o A c G g) Q) : pW ns d 66 178 [some (pm_r 20 0), some (pm_i v1), u2] [] (mm x R Z Y o A c G g) Q := by
  refine b66_178 hR e1 l1 (fun h1 => ?_) (fun h1 => ?_)
  · skip
    exact b66_188 hR   (k1 h1)
  · skip
    exact (k2 h1)
set_option maxRecDepth 20000 in
theorem t66_64 (hR : RS R) {u0 : Option pm_V} {u1 : Option pm_V} {u2 : Option pm_V} {vs0 : Int32}  (k1 : (vs0 = 0) → Q (.inl (some (pm_i (nI 2))), (mm x R Z Y o A c G g))) (k2 : (¬ (vs0 = 0)) → Q (.inl (some (pm_i (nI 1))), (mm x R Z Y o A c G g))) : pW ns d 66 64 [u0, u1, u2] [pm_i vs0] (mm x R Z Y o A c G g) Q := by
  refine b66_64 hR  (fun h1 => ?_) (fun h1 => ?_)
  · skip
    exact b66_71 hR   (k1 h1)
  · skip
    exact b66_67 hR   (k2 h1)
set_option maxRecDepth 20000 in
theorem t66_116 (hR : RS R) {u0 : Option pm_V} {u1 : Option pm_V} {u2 : Option pm_V} {vs0 : Int32}  (k1 : (vs0 = 0) → Q (.inl (some (pm_i (nI 1))), (mm x R Z Y o A c G g))) (k2 : (¬ (vs0 = 0)) → Q (.inl (some (pm_i (nI 0))), (mm x R Z Y o A c G g))) : pW ns d 66 116 [u0, u1, u2] [pm_i vs0] (mm x R Z Y o A c G g) Q := by
  refine b66_116 hR  (fun h1 => ?_) (fun h1 => ?_)
  · skip
    exact b66_119 hR   (k1 h1)
  · skip
    exact b66_123 hR   (k2 h1)
set_option maxRecDepth 20000 in
theorem t66_147 (hR : RS R) {v1 : Int32} {v2 : Int32} {vs0 : Int32}  (k1 : (vs0 = 0) → Q (.inl (some (pm_i (nI 1))), (mm x R Z Y o A c G g))) (k2 : (¬ (vs0 = 0)) → pW ns d 66 150 [some (pm_r 20 0), some (pm_i v1), some (pm_i v2)] [] (mm x R Z Y o A c G g) Q) : pW ns d 66 147 [some (pm_r 20 0), some (pm_i v1), some (pm_i v2)] [pm_i vs0] (mm x R Z Y o A c G g) Q := by
  refine b66_147 hR  (fun h1 => ?_) (fun h1 => ?_)
  · skip
    exact b66_172 hR   (k1 h1)
  · skip
    exact (k2 h1)
set_option maxRecDepth 20000 in
theorem t66_196 (hR : RS R) {v1 : Int32} {u2 : Option pm_V} {vs0 : Int32}  (k1 : (vs0 < 0) → Q (.inl (some (pm_i (nI 1))), (mm x R Z Y o A c G g))) (k2 : (¬ (vs0 < 0)) → pW ns d 66 199 [some (pm_r 20 0), some (pm_i v1), u2] [] (mm x R Z Y o A c G g) Q) : pW ns d 66 196 [some (pm_r 20 0), some (pm_i v1), u2] [pm_i vs0] (mm x R Z Y o A c G g) Q := by
  refine b66_196 hR  (fun h1 => ?_) (fun h1 => ?_)
  · skip
    exact b66_226 hR   (k1 h1)
  · skip
    exact (k2 h1)
set_option maxRecDepth 20000 in
theorem t66_150 (hR : RS R) {v1 : Int32} {v2 : Int32} {j1 : Nat} {j2 : Nat} (e1 : (v2 / (nI 2)) - (nI 1) = nI j1) (l1 : j1 < 6) (e2 : v1 = nI j2) (l2 : j2 < 8) (k1 : (nI 12 < (G 43 j1) + (G 36 j2)) → Q (.inl (some (pm_i (nI 0))), (mm x R Z Y o A c G g))) (k2 : (¬ (nI 12 < (G 43 j1) + (G 36 j2))) → Q (.inl (some (pm_i (nI 1))), (mm x R Z Y o A c G g))) : pW ns d 66 150 [some (pm_r 20 0), some (pm_i v1), some (pm_i v2)] [] (mm x R Z Y o A c G g) Q := by
  refine b66_150 hR e1 l1 e2 l2 (fun h1 => ?_) (fun h1 => ?_)
  · skip
    exact b66_176 hR   (k1 h1)
  · skip
    exact b66_172 hR   (k2 h1)
set_option maxRecDepth 20000 in
theorem t66_205 (hR : RS R) {v1 : Int32} {u2 : Option pm_V} {vs0 : Int32}  (k1 : (0 < vs0) → Q (.inl (some (pm_i (nI 1))), (mm x R Z Y o A c G g))) (k2 : (¬ (0 < vs0)) → pW ns d 66 208 [some (pm_r 20 0), some (pm_i v1), u2] [] (mm x R Z Y o A c G g) Q) : pW ns d 66 205 [some (pm_r 20 0), some (pm_i v1), u2] [pm_i vs0] (mm x R Z Y o A c G g) Q := by
  refine b66_205 hR  (fun h1 => ?_) (fun h1 => ?_)
  · skip
    exact b66_226 hR   (k1 h1)
  · skip
    exact (k2 h1)
set_option maxRecDepth 20000 in
theorem t66_208 (hR : RS R) {v1 : Int32} {u2 : Option pm_V} {j1 : Nat} (e1 : v1 = nI j1) (l1 : j1 < 8) (k1 : (G 38 j1 = 0) → Q (.inl (some (pm_i (nI 0))), (mm x R Z Y o A c G g))) (k2 : (¬ (G 38 j1 = 0)) → pW ns d 66 217 [some (pm_r 20 0), some (pm_i v1), u2] [] (mm x R Z Y o A c G g) Q) : pW ns d 66 208 [some (pm_r 20 0), some (pm_i v1), u2] [] (mm x R Z Y o A c G g) Q := by
  refine b66_208 hR e1 l1 (fun h1 => ?_) (fun h1 => ?_)
  · skip
    exact b66_230 hR   (k1 h1)
  · skip
    exact (k2 h1)
set_option maxRecDepth 20000 in
theorem t66_223 (hR : RS R) {u0 : Option pm_V} {u1 : Option pm_V} {u2 : Option pm_V} {vs0 : Int32}  (k1 : (vs0 ≤ 0) → Q (.inl (some (pm_i (nI 0))), (mm x R Z Y o A c G g))) (k2 : (¬ (vs0 ≤ 0)) → Q (.inl (some (pm_i (nI 1))), (mm x R Z Y o A c G g))) : pW ns d 66 223 [u0, u1, u2] [pm_i vs0] (mm x R Z Y o A c G g) Q := by
  refine b66_223 hR  (fun h1 => ?_) (fun h1 => ?_)
  · skip
    exact b66_230 hR   (k1 h1)
  · skip
    exact b66_226 hR   (k2 h1)
/-! 67 JobLayerModel.takeLine -/
set_option maxRecDepth 20000 in
theorem b67_0 (hR : RS R) {v1 : Int32} {u2 : Option pm_V} {u3 : Option pm_V} {j1 : Nat} (e1 : v1 = nI j1) (l1 : j1 < 8)  (k1 : G 45 0 ≤ G 36 j1 → pW ns d 67 24 [some (pm_r 20 0), some (pm_i v1), u2, u3] [] (mm x R Z Y o A c G g) Q) (k2 : ¬ (G 45 0 ≤ G 36 j1) → pW ns d 67 15 [some (pm_r 20 0), some (pm_i v1), u2, u3] [] (mm x R Z Y o A c G g) Q) : pW ns d 67 0 [some (pm_r 20 0), some (pm_i v1), u2, u3] [] (mm x R Z Y o A c G g) Q := by
  refine pW_eq 2 (pc' := 4) (L' := [some (pm_r 20 0), some (pm_i v1), u2, u3]) (S' := [pm_r 36 0]) (M' := (mm x R Z Y o A c G g)) (fun call n => ?_) ?_
  · refine Eq.trans (b := pm_g (mm x R Z Y o A c G g) 20 0 (pm_go call ns d 67 n 4 [some (pm_r 20 0), some (pm_i v1), u2, u3] [pm_a (R 20 0 16)] (mm x R Z Y o A c G g))) rfl ?_
    refine (g_ok (f := 20) (by decide) rfl).trans ?_
    exact (congrArg (fun z => pm_go call ns d 67 n 4 [some (pm_r 20 0), some (pm_i v1), u2, u3] [pm_a z] (mm x R Z Y o A c G g)) (rs_20_16 hR))
  refine pW_eq 2 (pc' := 6) (L' := [some (pm_r 20 0), some (pm_i v1), u2, u3]) (S' := [pm_i (G 36 j1)]) (M' := (mm x R Z Y o A c G g)) (fun call n => ?_) ?_
  · refine Eq.trans (b := pm_g (mm x R Z Y o A c G g) 36 0 (pm_ix (v1) 8 (fun jx => pm_go call ns d 67 n 6 [some (pm_r 20 0), some (pm_i v1), u2, u3] [pm_i (G 36 jx)] (mm x R Z Y o A c G g)))) rfl ?_
    refine (g_ok (f := 36) (by decide) rfl).trans ?_
    refine (ix_ok (j := j1) e1 l1 (by decide)).trans ?_
    rfl
  refine pW_eq 2 (pc' := 10) (L' := [some (pm_r 20 0), some (pm_i v1), u2, u3]) (S' := [pm_r 45 0, pm_i (G 36 j1)]) (M' := (mm x R Z Y o A c G g)) (fun call n => ?_) ?_
  · refine Eq.trans (b := pm_g (mm x R Z Y o A c G g) 20 0 (pm_go call ns d 67 n 10 [some (pm_r 20 0), some (pm_i v1), u2, u3] [pm_a (R 20 0 30), pm_i (G 36 j1)] (mm x R Z Y o A c G g))) rfl ?_
    refine (g_ok (f := 20) (by decide) rfl).trans ?_
    exact (congrArg (fun z => pm_go call ns d 67 n 10 [some (pm_r 20 0), some (pm_i v1), u2, u3] [pm_a z, pm_i (G 36 j1)] (mm x R Z Y o A c G g)) (rs_20_30 hR))
  refine pW_eq 2 (pc' := 12) (L' := [some (pm_r 20 0), some (pm_i v1), u2, u3]) (S' := [pm_i (G 45 0), pm_i (G 36 j1)]) (M' := (mm x R Z Y o A c G g)) (fun call n => ?_) ?_
  · refine Eq.trans (b := pm_g (mm x R Z Y o A c G g) 45 0 (pm_ix (nI 0) 8 (fun jx => pm_go call ns d 67 n 12 [some (pm_r 20 0), some (pm_i v1), u2, u3] [pm_i (G 45 jx), pm_i (G 36 j1)] (mm x R Z Y o A c G g)))) rfl ?_
    refine (g_ok (f := 45) (by decide) rfl).trans ?_
    refine (ix_ok (j := 0) rfl (by decide) (by decide)).trans ?_
    rfl
  exact pW_if 1 (c := G 45 0 ≤ G 36 j1) (fun call n => rfl) k1 k2
set_option maxRecDepth 20000 in
theorem b67_24 (hR : RS R) {v1 : Int32} {u2 : Option pm_V} {u3 : Option pm_V}   (k : pW ns d 67 33 [some (pm_r 20 0), some (pm_i v1), some (pm_i (G 45 0)), some (pm_i (nI 0))] [] (mm x R Z Y o A c G g) Q) : pW ns d 67 24 [some (pm_r 20 0), some (pm_i v1), u2, u3] [] (mm x R Z Y o A c G g) Q := by
  refine pW_eq 2 (pc' := 28) (L' := [some (pm_r 20 0), some (pm_i v1), u2, u3]) (S' := [pm_r 45 0]) (M' := (mm x R Z Y o A c G g)) (fun call n => ?_) ?_
  · refine Eq.trans (b := pm_g (mm x R Z Y o A c G g) 20 0 (pm_go call ns d 67 n 28 [some (pm_r 20 0), some (pm_i v1), u2, u3] [pm_a (R 20 0 30)] (mm x R Z Y o A c G g))) rfl ?_
    refine (g_ok (f := 20) (by decide) rfl).trans ?_
    exact (congrArg (fun z => pm_go call ns d 67 n 28 [some (pm_r 20 0), some (pm_i v1), u2, u3] [pm_a z] (mm x R Z Y o A c G g)) (rs_20_30 hR))
  refine pW_eq 2 (pc' := 30) (L' := [some (pm_r 20 0), some (pm_i v1), u2, u3]) (S' := [pm_i (G 45 0)]) (M' := (mm x R Z Y o A c G g)) (fun call n => ?_) ?_
  · refine Eq.trans (b := pm_g (mm x R Z Y o A c G g) 45 0 (pm_ix (nI 0) 8 (fun jx => pm_go call ns d 67 n 30 [some (pm_r 20 0), some (pm_i v1), u2, u3] [pm_i (G 45 jx)] (mm x R Z Y o A c G g)))) rfl ?_
    refine (g_ok (f := 45) (by decide) rfl).trans ?_
    refine (ix_ok (j := 0) rfl (by decide) (by decide)).trans ?_
    rfl
  exact pW_eq 3 (fun call n => rfl) k
set_option maxRecDepth 20000 in
theorem b67_15 (hR : RS R) {v1 : Int32} {u2 : Option pm_V} {u3 : Option pm_V} {j1 : Nat} (e1 : v1 = nI j1) (l1 : j1 < 8)  (k : pW ns d 67 33 [some (pm_r 20 0), some (pm_i v1), some (pm_i (G 36 j1)), some (pm_i (nI 0))] [] (mm x R Z Y o A c G g) Q) : pW ns d 67 15 [some (pm_r 20 0), some (pm_i v1), u2, u3] [] (mm x R Z Y o A c G g) Q := by
  refine pW_eq 2 (pc' := 19) (L' := [some (pm_r 20 0), some (pm_i v1), u2, u3]) (S' := [pm_r 36 0]) (M' := (mm x R Z Y o A c G g)) (fun call n => ?_) ?_
  · refine Eq.trans (b := pm_g (mm x R Z Y o A c G g) 20 0 (pm_go call ns d 67 n 19 [some (pm_r 20 0), some (pm_i v1), u2, u3] [pm_a (R 20 0 16)] (mm x R Z Y o A c G g))) rfl ?_
    refine (g_ok (f := 20) (by decide) rfl).trans ?_
    exact (congrArg (fun z => pm_go call ns d 67 n 19 [some (pm_r 20 0), some (pm_i v1), u2, u3] [pm_a z] (mm x R Z Y o A c G g)) (rs_20_16 hR))
  refine pW_eq 2 (pc' := 21) (L' := [some (pm_r 20 0), some (pm_i v1), u2, u3]) (S' := [pm_i (G 36 j1)]) (M' := (mm x R Z Y o A c G g)) (fun call n => ?_) ?_
  · refine Eq.trans (b := pm_g (mm x R Z Y o A c G g) 36 0 (pm_ix (v1) 8 (fun jx => pm_go call ns d 67 n 21 [some (pm_r 20 0), some (pm_i v1), u2, u3] [pm_i (G 36 jx)] (mm x R Z Y o A c G g)))) rfl ?_
    refine (g_ok (f := 36) (by decide) rfl).trans ?_
    refine (ix_ok (j := j1) e1 l1 (by decide)).trans ?_
    rfl
  exact pW_eq 4 (fun call n => rfl) k
set_option maxRecDepth 20000 in
theorem b67_33 (hR : RS R) {v1 : Int32} {v2 : Int32} {v3 : Int32}   (k1 : v2 ≤ v3 → pW ns d 67 61 [some (pm_r 20 0), some (pm_i v1), some (pm_i v2), some (pm_i v3)] [] (mm x R Z Y o A c G g) Q) (k2 : ¬ (v2 ≤ v3) → pW ns d 67 38 [some (pm_r 20 0), some (pm_i v1), some (pm_i v2), some (pm_i v3)] [] (mm x R Z Y o A c G g) Q) : pW ns d 67 33 [some (pm_r 20 0), some (pm_i v1), some (pm_i v2), some (pm_i v3)] [] (mm x R Z Y o A c G g) Q := by
  exact pW_if 3 (c := v2 ≤ v3) (fun call n => rfl) k1 k2
set_option maxRecDepth 20000 in
theorem b67_61 (hR : RS R) {v1 : Int32} {v2 : Int32} {u3 : Option pm_V}   (k : pW ns d 67 63 [some (pm_r 20 0), some (pm_i v1), some (pm_i v2), some (pm_i v2)] [] (mm x R Z Y o A c G g) Q) : pW ns d 67 61 [some (pm_r 20 0), some (pm_i v1), some (pm_i v2), u3] [] (mm x R Z Y o A c G g) Q := by
  exact pW_eq 2 (fun call n => rfl) k
set_option maxRecDepth 20000 in
theorem b67_38 (hR : RS R) {v1 : Int32} {v2 : Int32} {v3 : Int32} {j1 : Nat} {j2 : Nat} (e1 : v3 = nI j1) (l1 : j1 < 24) (e2 : ((nI 8) * v1) + v3 = nI j2) (l2 : j2 < 64)  (k : pW ns d 67 33 [some (pm_r 20 0), some (pm_i v1), some (pm_i v2), some (pm_i (v3 + (nI 1)))] [] (mm x R Z Y o A c (pm_v G 41 j2 (G 44 j1)) g) Q) : pW ns d 67 38 [some (pm_r 20 0), some (pm_i v1), some (pm_i v2), some (pm_i v3)] [] (mm x R Z Y o A c G g) Q := by
  refine pW_eq 2 (pc' := 42) (L' := [some (pm_r 20 0), some (pm_i v1), some (pm_i v2), some (pm_i v3)]) (S' := [pm_r 41 0]) (M' := (mm x R Z Y o A c G g)) (fun call n => ?_) ?_
  · refine Eq.trans (b := pm_g (mm x R Z Y o A c G g) 20 0 (pm_go call ns d 67 n 42 [some (pm_r 20 0), some (pm_i v1), some (pm_i v2), some (pm_i v3)] [pm_a (R 20 0 22)] (mm x R Z Y o A c G g))) rfl ?_
    refine (g_ok (f := 20) (by decide) rfl).trans ?_
    exact (congrArg (fun z => pm_go call ns d 67 n 42 [some (pm_r 20 0), some (pm_i v1), some (pm_i v2), some (pm_i v3)] [pm_a z] (mm x R Z Y o A c G g)) (rs_20_22 hR))
  refine pW_eq 7 (pc' := 52) (L' := [some (pm_r 20 0), some (pm_i v1), some (pm_i v2), some (pm_i v3)]) (S' := [pm_r 44 0, pm_i (((nI 8) * v1) + v3), pm_r 41 0]) (M' := (mm x R Z Y o A c G g)) (fun call n => ?_) ?_
  · refine Eq.trans (b := pm_g (mm x R Z Y o A c G g) 20 0 (pm_go call ns d 67 n 52 [some (pm_r 20 0), some (pm_i v1), some (pm_i v2), some (pm_i v3)] [pm_a (R 20 0 29), pm_i (((nI 8) * v1) + v3), pm_r 41 0] (mm x R Z Y o A c G g))) rfl ?_
    refine (g_ok (f := 20) (by decide) rfl).trans ?_
    exact (congrArg (fun z => pm_go call ns d 67 n 52 [some (pm_r 20 0), some (pm_i v1), some (pm_i v2), some (pm_i v3)] [pm_a z, pm_i (((nI 8) * v1) + v3), pm_r 41 0] (mm x R Z Y o A c G g)) (rs_20_29 hR))
  refine pW_eq 2 (pc' := 54) (L' := [some (pm_r 20 0), some (pm_i v1), some (pm_i v2), some (pm_i v3)]) (S' := [pm_i (G 44 j1), pm_i (((nI 8) * v1) + v3), pm_r 41 0]) (M' := (mm x R Z Y o A c G g)) (fun call n => ?_) ?_
  · refine Eq.trans (b := pm_g (mm x R Z Y o A c G g) 44 0 (pm_ix (v3) 24 (fun jx => pm_go call ns d 67 n 54 [some (pm_r 20 0), some (pm_i v1), some (pm_i v2), some (pm_i v3)] [pm_i (G 44 jx), pm_i (((nI 8) * v1) + v3), pm_r 41 0] (mm x R Z Y o A c G g)))) rfl ?_
    refine (g_ok (f := 44) (by decide) rfl).trans ?_
    refine (ix_ok (j := j1) e1 l1 (by decide)).trans ?_
    rfl
  refine pW_eq 1 (pc' := 55) (L' := [some (pm_r 20 0), some (pm_i v1), some (pm_i v2), some (pm_i v3)]) (S' := []) (M' := (mm x R Z Y o A c (pm_v G 41 j2 (G 44 j1)) g)) (fun call n => ?_) ?_
  · refine Eq.trans (b := pm_g (mm x R Z Y o A c G g) 41 0 (pm_ix (((nI 8) * v1) + v3) 64 (fun jx => pm_go call ns d 67 n 55 [some (pm_r 20 0), some (pm_i v1), some (pm_i v2), some (pm_i v3)] [] (pm_u (mA Z A G) 41 0 jx (G 44 j1), mB Y o c g, R, pm_tot, x)))) rfl ?_
    refine (g_ok (f := 41) (by decide) rfl).trans ?_
    refine (ix_ok (j := j2) e2 l2 (by decide)).trans ?_
    exact (congrArg (fun z => pm_go call ns d 67 n 55 [some (pm_r 20 0), some (pm_i v1), some (pm_i v2), some (pm_i v3)] [] (z, mB Y o c g, R, pm_tot, x)) (uG (by decide)))
  exact pW_eq 2 (fun call n => rfl) k
set_option maxRecDepth 20000 in
theorem b67_63 (hR : RS R) {v1 : Int32} {v2 : Int32} {v3 : Int32}   (k1 : nI 24 ≤ v3 → pW ns d 67 89 [some (pm_r 20 0), some (pm_i v1), some (pm_i v2), some (pm_i v3)] [] (mm x R Z Y o A c G g) Q) (k2 : ¬ (nI 24 ≤ v3) → pW ns d 67 69 [some (pm_r 20 0), some (pm_i v1), some (pm_i v2), some (pm_i v3)] [] (mm x R Z Y o A c G g) Q) : pW ns d 67 63 [some (pm_r 20 0), some (pm_i v1), some (pm_i v2), some (pm_i v3)] [] (mm x R Z Y o A c G g) Q := by
  exact pW_if 3 (c := nI 24 ≤ v3) (fun call n => rfl) k1 k2
set_option maxRecDepth 20000 in
theorem b67_89 (hR : RS R) {v1 : Int32} {v2 : Int32} {u3 : Option pm_V} {j1 : Nat} (e1 : v1 = nI j1) (l1 : j1 < 8)  (k1 : (pm_v (pm_v G 45 0 ((G 45 0) - v2)) 27 j1 v2) 45 0 ≤ 0 → pW ns d 67 117 [some (pm_r 20 0), some (pm_i v1), some (pm_i v2), u3] [] (mm x R Z Y o A c (pm_v (pm_v G 45 0 ((G 45 0) - v2)) 27 j1 v2) g) Q) (k2 : ¬ ((pm_v (pm_v G 45 0 ((G 45 0) - v2)) 27 j1 v2) 45 0 ≤ 0) → pW ns d 67 115 [some (pm_r 20 0), some (pm_i v1), some (pm_i v2), u3] [] (mm x R Z Y o A c (pm_v (pm_v G 45 0 ((G 45 0) - v2)) 27 j1 v2) g) Q) : pW ns d 67 89 [some (pm_r 20 0), some (pm_i v1), some (pm_i v2), u3] [] (mm x R Z Y o A c G g) Q := by
  refine pW_eq 2 (pc' := 93) (L' := [some (pm_r 20 0), some (pm_i v1), some (pm_i v2), u3]) (S' := [pm_r 45 0]) (M' := (mm x R Z Y o A c G g)) (fun call n => ?_) ?_
  · refine Eq.trans (b := pm_g (mm x R Z Y o A c G g) 20 0 (pm_go call ns d 67 n 93 [some (pm_r 20 0), some (pm_i v1), some (pm_i v2), u3] [pm_a (R 20 0 30)] (mm x R Z Y o A c G g))) rfl ?_
    refine (g_ok (f := 20) (by decide) rfl).trans ?_
    exact (congrArg (fun z => pm_go call ns d 67 n 93 [some (pm_r 20 0), some (pm_i v1), some (pm_i v2), u3] [pm_a z] (mm x R Z Y o A c G g)) (rs_20_30 hR))
  refine pW_eq 3 (pc' := 96) (L' := [some (pm_r 20 0), some (pm_i v1), some (pm_i v2), u3]) (S' := [pm_i (G 45 0), pm_i (nI 0), pm_r 45 0]) (M' := (mm x R Z Y o A c G g)) (fun call n => ?_) ?_
  · refine Eq.trans (b := pm_g (mm x R Z Y o A c G g) 45 0 (pm_ix (nI 0) 8 (fun jx => pm_go call ns d 67 n 96 [some (pm_r 20 0), some (pm_i v1), some (pm_i v2), u3] [pm_i (G 45 jx), pm_i (nI 0), pm_r 45 0] (mm x R Z Y o A c G g)))) rfl ?_
    refine (g_ok (f := 45) (by decide) rfl).trans ?_
    refine (ix_ok (j := 0) rfl (by decide) (by decide)).trans ?_
    rfl
  refine pW_eq 3 (pc' := 99) (L' := [some (pm_r 20 0), some (pm_i v1), some (pm_i v2), u3]) (S' := []) (M' := (mm x R Z Y o A c (pm_v G 45 0 ((G 45 0) - v2)) g)) (fun call n => ?_) ?_
  · refine Eq.trans (b := pm_g (mm x R Z Y o A c G g) 45 0 (pm_ix (nI 0) 8 (fun jx => pm_go call ns d 67 n 99 [some (pm_r 20 0), some (pm_i v1), some (pm_i v2), u3] [] (pm_u (mA Z A G) 45 0 jx ((G 45 0) - v2), mB Y o c g, R, pm_tot, x)))) rfl ?_
    refine (g_ok (f := 45) (by decide) rfl).trans ?_
    refine (ix_ok (j := 0) rfl (by decide) (by decide)).trans ?_
    exact (congrArg (fun z => pm_go call ns d 67 n 99 [some (pm_r 20 0), some (pm_i v1), some (pm_i v2), u3] [] (z, mB Y o c g, R, pm_tot, x)) (uG (by decide)))
  refine pW_eq 2 (pc' := 103) (L' := [some (pm_r 20 0), some (pm_i v1), some (pm_i v2), u3]) (S' := [pm_r 27 0]) (M' := (mm x R Z Y o A c (pm_v G 45 0 ((G 45 0) - v2)) g)) (fun call n => ?_) ?_
  · refine Eq.trans (b := pm_g (mm x R Z Y o A c (pm_v G 45 0 ((G 45 0) - v2)) g) 20 0 (pm_go call ns d 67 n 103 [some (pm_r 20 0), some (pm_i v1), some (pm_i v2), u3] [pm_a (R 20 0 7)] (mm x R Z Y o A c (pm_v G 45 0 ((G 45 0) - v2)) g))) rfl ?_
    refine (g_ok (f := 20) (by decide) rfl).trans ?_
    exact (congrArg (fun z => pm_go call ns d 67 n 103 [some (pm_r 20 0), some (pm_i v1), some (pm_i v2), u3] [pm_a z] (mm x R Z Y o A c (pm_v G 45 0 ((G 45 0) - v2)) g)) (rs_20_7 hR))
  refine pW_eq 3 (pc' := 106) (L' := [some (pm_r 20 0), some (pm_i v1), some (pm_i v2), u3]) (S' := []) (M' := (mm x R Z Y o A c (pm_v (pm_v G 45 0 ((G 45 0) - v2)) 27 j1 v2) g)) (fun call n => ?_) ?_
  · refine Eq.trans (b := pm_g (mm x R Z Y o A c (pm_v G 45 0 ((G 45 0) - v2)) g) 27 0 (pm_ix (v1) 8 (fun jx => pm_go call ns d 67 n 106 [some (pm_r 20 0), some (pm_i v1), some (pm_i v2), u3] [] (pm_u (mA Z A (pm_v G 45 0 ((G 45 0) - v2))) 27 0 jx v2, mB Y o c g, R, pm_tot, x)))) rfl ?_
    refine (g_ok (f := 27) (by decide) rfl).trans ?_
    refine (ix_ok (j := j1) e1 l1 (by decide)).trans ?_
    exact (congrArg (fun z => pm_go call ns d 67 n 106 [some (pm_r 20 0), some (pm_i v1), some (pm_i v2), u3] [] (z, mB Y o c g, R, pm_tot, x)) (uG (by decide)))
  refine pW_eq 2 (pc' := 110) (L' := [some (pm_r 20 0), some (pm_i v1), some (pm_i v2), u3]) (S' := [pm_r 45 0]) (M' := (mm x R Z Y o A c (pm_v (pm_v G 45 0 ((G 45 0) - v2)) 27 j1 v2) g)) (fun call n => ?_) ?_
  · refine Eq.trans (b := pm_g (mm x R Z Y o A c (pm_v (pm_v G 45 0 ((G 45 0) - v2)) 27 j1 v2) g) 20 0 (pm_go call ns d 67 n 110 [some (pm_r 20 0), some (pm_i v1), some (pm_i v2), u3] [pm_a (R 20 0 30)] (mm x R Z Y o A c (pm_v (pm_v G 45 0 ((G 45 0) - v2)) 27 j1 v2) g))) rfl ?_
    refine (g_ok (f := 20) (by decide) rfl).trans ?_
    exact (congrArg (fun z => pm_go call ns d 67 n 110 [some (pm_r 20 0), some (pm_i v1), some (pm_i v2), u3] [pm_a z] (mm x R Z Y o A c (pm_v (pm_v G 45 0 ((G 45 0) - v2)) 27 j1 v2) g)) (rs_20_30 hR))
  refine pW_eq 2 (pc' := 112) (L' := [some (pm_r 20 0), some (pm_i v1), some (pm_i v2), u3]) (S' := [pm_i ((pm_v (pm_v G 45 0 ((G 45 0) - v2)) 27 j1 v2) 45 0)]) (M' := (mm x R Z Y o A c (pm_v (pm_v G 45 0 ((G 45 0) - v2)) 27 j1 v2) g)) (fun call n => ?_) ?_
  · refine Eq.trans (b := pm_g (mm x R Z Y o A c (pm_v (pm_v G 45 0 ((G 45 0) - v2)) 27 j1 v2) g) 45 0 (pm_ix (nI 0) 8 (fun jx => pm_go call ns d 67 n 112 [some (pm_r 20 0), some (pm_i v1), some (pm_i v2), u3] [pm_i ((pm_v (pm_v G 45 0 ((G 45 0) - v2)) 27 j1 v2) 45 jx)] (mm x R Z Y o A c (pm_v (pm_v G 45 0 ((G 45 0) - v2)) 27 j1 v2) g)))) rfl ?_
    refine (g_ok (f := 45) (by decide) rfl).trans ?_
    refine (ix_ok (j := 0) rfl (by decide) (by decide)).trans ?_
    rfl
  exact pW_if 1 (c := (pm_v (pm_v G 45 0 ((G 45 0) - v2)) 27 j1 v2) 45 0 ≤ 0) (fun call n => rfl) k1 k2
set_option maxRecDepth 20000 in
theorem b67_69 (hR : RS R) {v1 : Int32} {v2 : Int32} {v3 : Int32} {j1 : Nat} {j2 : Nat} (e1 : v3 = nI j1) (l1 : j1 < 24) (e2 : v3 - v2 = nI j2) (l2 : j2 < 24)  (k : pW ns d 67 63 [some (pm_r 20 0), some (pm_i v1), some (pm_i v2), some (pm_i (v3 + (nI 1)))] [] (mm x R Z Y o A c (pm_v G 44 j2 (G 44 j1)) g) Q) : pW ns d 67 69 [some (pm_r 20 0), some (pm_i v1), some (pm_i v2), some (pm_i v3)] [] (mm x R Z Y o A c G g) Q := by
  refine pW_eq 2 (pc' := 73) (L' := [some (pm_r 20 0), some (pm_i v1), some (pm_i v2), some (pm_i v3)]) (S' := [pm_r 44 0]) (M' := (mm x R Z Y o A c G g)) (fun call n => ?_) ?_
  · refine Eq.trans (b := pm_g (mm x R Z Y o A c G g) 20 0 (pm_go call ns d 67 n 73 [some (pm_r 20 0), some (pm_i v1), some (pm_i v2), some (pm_i v3)] [pm_a (R 20 0 29)] (mm x R Z Y o A c G g))) rfl ?_
    refine (g_ok (f := 20) (by decide) rfl).trans ?_
    exact (congrArg (fun z => pm_go call ns d 67 n 73 [some (pm_r 20 0), some (pm_i v1), some (pm_i v2), some (pm_i v3)] [pm_a z] (mm x R Z Y o A c G g)) (rs_20_29 hR))
  refine pW_eq 5 (pc' := 80) (L' := [some (pm_r 20 0), some (pm_i v1), some (pm_i v2), some (pm_i v3)]) (S' := [pm_r 44 0, pm_i (v3 - v2), pm_r 44 0]) (M' := (mm x R Z Y o A c G g)) (fun call n => ?_) ?_
  · refine Eq.trans (b := pm_g (mm x R Z Y o A c G g) 20 0 (pm_go call ns d 67 n 80 [some (pm_r 20 0), some (pm_i v1), some (pm_i v2), some (pm_i v3)] [pm_a (R 20 0 29), pm_i (v3 - v2), pm_r 44 0] (mm x R Z Y o A c G g))) rfl ?_
    refine (g_ok (f := 20) (by decide) rfl).trans ?_
    exact (congrArg (fun z => pm_go call ns d 67 n 80 [some (pm_r 20 0), some (pm_i v1), some (pm_i v2), some (pm_i v3)] [pm_a z, pm_i (v3 - v2), pm_r 44 0] (mm x R Z Y o A c G g)) (rs_20_29 hR))
  refine pW_eq 2 (pc' := 82) (L' := [some (pm_r 20 0), some (pm_i v1), some (pm_i v2), some (pm_i v3)]) (S' := [pm_i (G 44 j1), pm_i (v3 - v2), pm_r 44 0]) (M' := (mm x R Z Y o A c G g)) (fun call n => ?_) ?_
  · refine Eq.trans (b := pm_g (mm x R Z Y o A c G g) 44 0 (pm_ix (v3) 24 (fun jx => pm_go call ns d 67 n 82 [some (pm_r 20 0), some (pm_i v1), some (pm_i v2), some (pm_i v3)] [pm_i (G 44 jx), pm_i (v3 - v2), pm_r 44 0] (mm x R Z Y o A c G g)))) rfl ?_
    refine (g_ok (f := 44) (by decide) rfl).trans ?_
    refine (ix_ok (j := j1) e1 l1 (by decide)).trans ?_
    rfl
  refine pW_eq 1 (pc' := 83) (L' := [some (pm_r 20 0), some (pm_i v1), some (pm_i v2), some (pm_i v3)]) (S' := []) (M' := (mm x R Z Y o A c (pm_v G 44 j2 (G 44 j1)) g)) (fun call n => ?_) ?_
  · refine Eq.trans (b := pm_g (mm x R Z Y o A c G g) 44 0 (pm_ix (v3 - v2) 24 (fun jx => pm_go call ns d 67 n 83 [some (pm_r 20 0), some (pm_i v1), some (pm_i v2), some (pm_i v3)] [] (pm_u (mA Z A G) 44 0 jx (G 44 j1), mB Y o c g, R, pm_tot, x)))) rfl ?_
    refine (g_ok (f := 44) (by decide) rfl).trans ?_
    refine (ix_ok (j := j2) e2 l2 (by decide)).trans ?_
    exact (congrArg (fun z => pm_go call ns d 67 n 83 [some (pm_r 20 0), some (pm_i v1), some (pm_i v2), some (pm_i v3)] [] (z, mB Y o c g, R, pm_tot, x)) (uG (by decide)))
  exact pW_eq 2 (fun call n => rfl) k
set_option maxRecDepth 20000 in
theorem b67_117 (hR : RS R) {u1 : Option pm_V} {v2 : Int32} {u3 : Option pm_V}   (k : pW ns d 67 129 [some (pm_r 20 0), u1, some (pm_i v2), some (pm_i (nI 0))] [] (mm x R Z Y o A c (pm_v G 20 26 ((G 20 26) - (nI 1))) g) Q) : pW ns d 67 117 [some (pm_r 20 0), u1, some (pm_i v2), u3] [] (mm x R Z Y o A c G g) Q := by
  refine pW_eq 3 (pc' := 122) (L' := [some (pm_r 20 0), u1, some (pm_i v2), u3]) (S' := [pm_i (G 20 26), pm_r 20 0]) (M' := (mm x R Z Y o A c G g)) (fun call n => ?_) ?_
  · refine Eq.trans (b := pm_g (mm x R Z Y o A c G g) 20 0 (pm_go call ns d 67 n 122 [some (pm_r 20 0), u1, some (pm_i v2), u3] [pm_i (G 20 26), pm_r 20 0] (mm x R Z Y o A c G g))) rfl ?_
    refine (g_ok (f := 20) (by decide) rfl).trans ?_
    rfl
  refine pW_eq 3 (pc' := 127) (L' := [some (pm_r 20 0), u1, some (pm_i v2), u3]) (S' := []) (M' := (mm x R Z Y o A c (pm_v G 20 26 ((G 20 26) - (nI 1))) g)) (fun call n => ?_) ?_
  · refine Eq.trans (b := pm_g (mm x R Z Y o A c G g) 20 0 (pm_go call ns d 67 n 127 [some (pm_r 20 0), u1, some (pm_i v2), u3] [] (pm_u (mA Z A G) 20 0 26 ((G 20 26) - (nI 1)), mB Y o c g, R, pm_tot, x))) rfl ?_
    refine (g_ok (f := 20) (by decide) rfl).trans ?_
    exact (congrArg (fun z => pm_go call ns d 67 n 127 [some (pm_r 20 0), u1, some (pm_i v2), u3] [] (z, mB Y o c g, R, pm_tot, x)) (uG (by decide)))
  exact pW_eq 2 (fun call n => rfl) k
set_option maxRecDepth 20000 in
theorem b67_115 (hR : RS R) {u0 : Option pm_V} {u1 : Option pm_V} {v2 : Int32} {u3 : Option pm_V}   (k : Q (.inl (some (pm_i v2)), (mm x R Z Y o A c G g))) : pW ns d 67 115 [u0, u1, some (pm_i v2), u3] [] (mm x R Z Y o A c G g) Q := by
  refine pW_ret 2 (fun call n => ?_) k
  rfl
set_option maxRecDepth 20000 in
theorem b67_129 (hR : RS R) {u1 : Option pm_V} {v2 : Int32} {v3 : Int32}   (k1 : G 20 26 ≤ v3 → pW ns d 67 157 [some (pm_r 20 0), u1, some (pm_i v2), some (pm_i v3)] [] (mm x R Z Y o A c G g) Q) (k2 : ¬ (G 20 26 ≤ v3) → pW ns d 67 137 [some (pm_r 20 0), u1, some (pm_i v2), some (pm_i v3)] [] (mm x R Z Y o A c G g) Q) : pW ns d 67 129 [some (pm_r 20 0), u1, some (pm_i v2), some (pm_i v3)] [] (mm x R Z Y o A c G g) Q := by
  refine pW_eq 3 (pc' := 134) (L' := [some (pm_r 20 0), u1, some (pm_i v2), some (pm_i v3)]) (S' := [pm_i (G 20 26), pm_i v3]) (M' := (mm x R Z Y o A c G g)) (fun call n => ?_) ?_
  · refine Eq.trans (b := pm_g (mm x R Z Y o A c G g) 20 0 (pm_go call ns d 67 n 134 [some (pm_r 20 0), u1, some (pm_i v2), some (pm_i v3)] [pm_i (G 20 26), pm_i v3] (mm x R Z Y o A c G g))) rfl ?_
    refine (g_ok (f := 20) (by decide) rfl).trans ?_
    rfl
  exact pW_if 1 (c := G 20 26 ≤ v3) (fun call n => rfl) k1 k2
set_option maxRecDepth 20000 in
theorem b67_157 (hR : RS R) {u0 : Option pm_V} {u1 : Option pm_V} {v2 : Int32} {u3 : Option pm_V}   (k : Q (.inl (some (pm_i v2)), (mm x R Z Y o A c G g))) : pW ns d 67 157 [u0, u1, some (pm_i v2), u3] [] (mm x R Z Y o A c G g) Q := by
  refine pW_ret 2 (fun call n => ?_) k
  rfl
set_option maxRecDepth 20000 in
theorem b67_137 (hR : RS R) {u1 : Option pm_V} {v2 : Int32} {v3 : Int32} {j1 : Nat} {j2 : Nat} (e1 : v3 + (nI 1) = nI j1) (l1 : j1 < 8) (e2 : v3 = nI j2) (l2 : j2 < 8)  (k : pW ns d 67 129 [some (pm_r 20 0), u1, some (pm_i v2), some (pm_i (v3 + (nI 1)))] [] (mm x R Z Y o A c (pm_v G 45 j2 (G 45 j1)) g) Q) : pW ns d 67 137 [some (pm_r 20 0), u1, some (pm_i v2), some (pm_i v3)] [] (mm x R Z Y o A c G g) Q := by
  refine pW_eq 2 (pc' := 141) (L' := [some (pm_r 20 0), u1, some (pm_i v2), some (pm_i v3)]) (S' := [pm_r 45 0]) (M' := (mm x R Z Y o A c G g)) (fun call n => ?_) ?_
  · refine Eq.trans (b := pm_g (mm x R Z Y o A c G g) 20 0 (pm_go call ns d 67 n 141 [some (pm_r 20 0), u1, some (pm_i v2), some (pm_i v3)] [pm_a (R 20 0 30)] (mm x R Z Y o A c G g))) rfl ?_
    refine (g_ok (f := 20) (by decide) rfl).trans ?_
    exact (congrArg (fun z => pm_go call ns d 67 n 141 [some (pm_r 20 0), u1, some (pm_i v2), some (pm_i v3)] [pm_a z] (mm x R Z Y o A c G g)) (rs_20_30 hR))
  refine pW_eq 3 (pc' := 146) (L' := [some (pm_r 20 0), u1, some (pm_i v2), some (pm_i v3)]) (S' := [pm_r 45 0, pm_i v3, pm_r 45 0]) (M' := (mm x R Z Y o A c G g)) (fun call n => ?_) ?_
  · refine Eq.trans (b := pm_g (mm x R Z Y o A c G g) 20 0 (pm_go call ns d 67 n 146 [some (pm_r 20 0), u1, some (pm_i v2), some (pm_i v3)] [pm_a (R 20 0 30), pm_i v3, pm_r 45 0] (mm x R Z Y o A c G g))) rfl ?_
    refine (g_ok (f := 20) (by decide) rfl).trans ?_
    exact (congrArg (fun z => pm_go call ns d 67 n 146 [some (pm_r 20 0), u1, some (pm_i v2), some (pm_i v3)] [pm_a z, pm_i v3, pm_r 45 0] (mm x R Z Y o A c G g)) (rs_20_30 hR))
  refine pW_eq 4 (pc' := 150) (L' := [some (pm_r 20 0), u1, some (pm_i v2), some (pm_i v3)]) (S' := [pm_i (G 45 j1), pm_i v3, pm_r 45 0]) (M' := (mm x R Z Y o A c G g)) (fun call n => ?_) ?_
  · refine Eq.trans (b := pm_g (mm x R Z Y o A c G g) 45 0 (pm_ix (v3 + (nI 1)) 8 (fun jx => pm_go call ns d 67 n 150 [some (pm_r 20 0), u1, some (pm_i v2), some (pm_i v3)] [pm_i (G 45 jx), pm_i v3, pm_r 45 0] (mm x R Z Y o A c G g)))) rfl ?_
    refine (g_ok (f := 45) (by decide) rfl).trans ?_
    refine (ix_ok (j := j1) e1 l1 (by decide)).trans ?_
    rfl
  refine pW_eq 1 (pc' := 151) (L' := [some (pm_r 20 0), u1, some (pm_i v2), some (pm_i v3)]) (S' := []) (M' := (mm x R Z Y o A c (pm_v G 45 j2 (G 45 j1)) g)) (fun call n => ?_) ?_
  · refine Eq.trans (b := pm_g (mm x R Z Y o A c G g) 45 0 (pm_ix (v3) 8 (fun jx => pm_go call ns d 67 n 151 [some (pm_r 20 0), u1, some (pm_i v2), some (pm_i v3)] [] (pm_u (mA Z A G) 45 0 jx (G 45 j1), mB Y o c g, R, pm_tot, x)))) rfl ?_
    refine (g_ok (f := 45) (by decide) rfl).trans ?_
    refine (ix_ok (j := j2) e2 l2 (by decide)).trans ?_
    exact (congrArg (fun z => pm_go call ns d 67 n 151 [some (pm_r 20 0), u1, some (pm_i v2), some (pm_i v3)] [] (z, mB Y o c g, R, pm_tot, x)) (uG (by decide)))
  exact pW_eq 2 (fun call n => rfl) k
set_option maxRecDepth 20000 in
theorem t67_0 (hR : RS R) {v1 : Int32} {u2 : Option pm_V} {u3 : Option pm_V} {j1 : Nat} (e1 : v1 = nI j1) (l1 : j1 < 8) (k1 : (G 45 0 ≤ G 36 j1) → pW ns d 67 33 [some (pm_r 20 0), some (pm_i v1), some (pm_i (G 45 0)), some (pm_i (nI 0))] [] (mm x R Z Y o A c G g) Q) (k2 : (¬ (G 45 0 ≤ G 36 j1)) → pW ns d 67 33 [some (pm_r 20 0), some (pm_i v1), some (pm_i (G 36 j1)), some (pm_i (nI 0))] [] (mm x R Z Y o A c G g) Q) : pW ns d 67 0 [some (pm_r 20 0), some (pm_i v1), u2, u3] [] (mm x R Z Y o A c G g) Q := by
  refine b67_0 hR e1 l1 (fun h1 => ?_) (fun h1 => ?_)
  · skip
    exact b67_24 hR   (k1 h1)
  · skip
    exact b67_15 hR  e1 l1 (k2 h1)
set_option maxRecDepth 20000 in
theorem t67_33 (hR : RS R) {v1 : Int32} {v2 : Int32} {v3 : Int32}  (k1 : (v2 ≤ v3) → pW ns d 67 63 [some (pm_r 20 0), some (pm_i v1), some (pm_i v2), some (pm_i v2)] [] (mm x R Z Y o A c G g) Q) (k2 : (¬ (v2 ≤ v3)) → pW ns d 67 38 [some (pm_r 20 0), some (pm_i v1), some (pm_i v2), some (pm_i v3)] [] (mm x R Z Y o A c G g) Q) : pW ns d 67 33 [some (pm_r 20 0), some (pm_i v1), some (pm_i v2), some (pm_i v3)] [] (mm x R Z Y o A c G g) Q := by
  refine b67_33 hR  (fun h1 => ?_) (fun h1 => ?_)
  · skip
    exact b67_61 hR   (k1 h1)
  · skip
    exact (k2 h1)
set_option maxRecDepth 20000 in
theorem t67_63 (hR : RS R) {v1 : Int32} {v2 : Int32} {v3 : Int32}  (k1 : (nI 24 ≤ v3) → pW ns d 67 89 [some (pm_r 20 0), some (pm_i v1), some (pm_i v2), some (pm_i v3)] [] (mm x R Z Y o A c G g) Q) (k2 : (¬ (nI 24 ≤ v3)) → pW ns d 67 69 [some (pm_r 20 0), some (pm_i v1), some (pm_i v2), some (pm_i v3)] [] (mm x R Z Y o A c G g) Q) : pW ns d 67 63 [some (pm_r 20 0), some (pm_i v1), some (pm_i v2), some (pm_i v3)] [] (mm x R Z Y o A c G g) Q := by
  refine b67_63 hR  (fun h1 => ?_) (fun h1 => ?_)
  · skip
    exact (k1 h1)
  · skip
    exact (k2 h1)
set_option maxRecDepth 20000 in
theorem t67_89 (hR : RS R) {v1 : Int32} {v2 : Int32} {u3 : Option pm_V} {j1 : Nat} (e1 : v1 = nI j1) (l1 : j1 < 8) (k1 : ((pm_v (pm_v G 45 0 ((G 45 0) - v2)) 27 j1 v2) 45 0 ≤ 0) → pW ns d 67 129 [some (pm_r 20 0), some (pm_i v1), some (pm_i v2), some (pm_i (nI 0))] [] (mm x R Z Y o A c (pm_v (pm_v (pm_v G 45 0 ((G 45 0) - v2)) 27 j1 v2) 20 26 (((pm_v (pm_v G 45 0 ((G 45 0) - v2)) 27 j1 v2) 20 26) - (nI 1))) g) Q) (k2 : (¬ ((pm_v (pm_v G 45 0 ((G 45 0) - v2)) 27 j1 v2) 45 0 ≤ 0)) → Q (.inl (some (pm_i v2)), (mm x R Z Y o A c (pm_v (pm_v G 45 0 ((G 45 0) - v2)) 27 j1 v2) g))) : pW ns d 67 89 [some (pm_r 20 0), some (pm_i v1), some (pm_i v2), u3] [] (mm x R Z Y o A c G g) Q := by
  refine b67_89 hR e1 l1 (fun h1 => ?_) (fun h1 => ?_)
  · skip
    exact b67_117 hR   (k1 h1)
  · skip
    exact b67_115 hR   (k2 h1)
set_option maxRecDepth 20000 in
theorem t67_129 (hR : RS R) {u1 : Option pm_V} {v2 : Int32} {v3 : Int32}  (k1 : (G 20 26 ≤ v3) → Q (.inl (some (pm_i v2)), (mm x R Z Y o A c G g))) (k2 : (¬ (G 20 26 ≤ v3)) → pW ns d 67 137 [some (pm_r 20 0), u1, some (pm_i v2), some (pm_i v3)] [] (mm x R Z Y o A c G g) Q) : pW ns d 67 129 [some (pm_r 20 0), u1, some (pm_i v2), some (pm_i v3)] [] (mm x R Z Y o A c G g) Q := by
  refine b67_129 hR  (fun h1 => ?_) (fun h1 => ?_)
  · skip
    exact b67_157 hR   (k1 h1)
  · skip
    exact (k2 h1)
/-! 68 JobLayerModel.takeBytes -/
set_option maxRecDepth 20000 in
theorem b68_0 (hR : RS R) {v1 : Int32} {v2 : Int32} {u3 : Option pm_V} {u4 : Option pm_V} {j1 : Nat} {j2 : Nat} (e1 : v1 = nI j1) (l1 : j1 < 8) (e2 : v2 = nI j2) (l2 : j2 < 6)  (k1 : G 43 j2 ≤ G 36 j1 → pW ns d 68 24 [some (pm_r 20 0), some (pm_i v1), some (pm_i v2), u3, u4] [] (mm x R Z Y o A c G g) Q) (k2 : ¬ (G 43 j2 ≤ G 36 j1) → pW ns d 68 15 [some (pm_r 20 0), some (pm_i v1), some (pm_i v2), u3, u4] [] (mm x R Z Y o A c G g) Q) : pW ns d 68 0 [some (pm_r 20 0), some (pm_i v1), some (pm_i v2), u3, u4] [] (mm x R Z Y o A c G g) Q := by
  refine pW_eq 2 (pc' := 4) (L' := [some (pm_r 20 0), some (pm_i v1), some (pm_i v2), u3, u4]) (S' := [pm_r 36 0]) (M' := (mm x R Z Y o A c G g)) (fun call n => ?_) ?_
  · refine Eq.trans (b := pm_g (mm x R Z Y o A c G g) 20 0 (pm_go call ns d 68 n 4 [some (pm_r 20 0), some (pm_i v1), some (pm_i v2), u3, u4] [pm_a (R 20 0 16)] (mm x R Z Y o A c G g))) rfl ?_
    refine (g_ok (f := 20) (by decide) rfl).trans ?_
    exact (congrArg (fun z => pm_go call ns d 68 n 4 [some (pm_r 20 0), some (pm_i v1), some (pm_i v2), u3, u4] [pm_a z] (mm x R Z Y o A c G g)) (rs_20_16 hR))
  refine pW_eq 2 (pc' := 6) (L' := [some (pm_r 20 0), some (pm_i v1), some (pm_i v2), u3, u4]) (S' := [pm_i (G 36 j1)]) (M' := (mm x R Z Y o A c G g)) (fun call n => ?_) ?_
  · refine Eq.trans (b := pm_g (mm x R Z Y o A c G g) 36 0 (pm_ix (v1) 8 (fun jx => pm_go call ns d 68 n 6 [some (pm_r 20 0), some (pm_i v1), some (pm_i v2), u3, u4] [pm_i (G 36 jx)] (mm x R Z Y o A c G g)))) rfl ?_
    refine (g_ok (f := 36) (by decide) rfl).trans ?_
    refine (ix_ok (j := j1) e1 l1 (by decide)).trans ?_
    rfl
  refine pW_eq 2 (pc' := 10) (L' := [some (pm_r 20 0), some (pm_i v1), some (pm_i v2), u3, u4]) (S' := [pm_r 43 0, pm_i (G 36 j1)]) (M' := (mm x R Z Y o A c G g)) (fun call n => ?_) ?_
  · refine Eq.trans (b := pm_g (mm x R Z Y o A c G g) 20 0 (pm_go call ns d 68 n 10 [some (pm_r 20 0), some (pm_i v1), some (pm_i v2), u3, u4] [pm_a (R 20 0 24), pm_i (G 36 j1)] (mm x R Z Y o A c G g))) rfl ?_
    refine (g_ok (f := 20) (by decide) rfl).trans ?_
    exact (congrArg (fun z => pm_go call ns d 68 n 10 [some (pm_r 20 0), some (pm_i v1), some (pm_i v2), u3, u4] [pm_a z, pm_i (G 36 j1)] (mm x R Z Y o A c G g)) (rs_20_24 hR))
  refine pW_eq 2 (pc' := 12) (L' := [some (pm_r 20 0), some (pm_i v1), some (pm_i v2), u3, u4]) (S' := [pm_i (G 43 j2), pm_i (G 36 j1)]) (M' := (mm x R Z Y o A c G g)) (fun call n => ?_) ?_
  · refine Eq.trans (b := pm_g (mm x R Z Y o A c G g) 43 0 (pm_ix (v2) 6 (fun jx => pm_go call ns d 68 n 12 [some (pm_r 20 0), some (pm_i v1), some (pm_i v2), u3, u4] [pm_i (G 43 jx), pm_i (G 36 j1)] (mm x R Z Y o A c G g)))) rfl ?_
    refine (g_ok (f := 43) (by decide) rfl).trans ?_
    refine (ix_ok (j := j2) e2 l2 (by decide)).trans ?_
    rfl
  exact pW_if 1 (c := G 43 j2 ≤ G 36 j1) (fun call n => rfl) k1 k2
set_option maxRecDepth 20000 in
theorem b68_24 (hR : RS R) {v1 : Int32} {v2 : Int32} {u3 : Option pm_V} {u4 : Option pm_V} {j1 : Nat} (e1 : v2 = nI j1) (l1 : j1 < 6)  (k : pW ns d 68 34 [some (pm_r 20 0), some (pm_i v1), some (pm_i v2), some (pm_i (G 43 j1)), some (pm_i (nI 0))] [] (mm x R Z Y o A c G g) Q) : pW ns d 68 24 [some (pm_r 20 0), some (pm_i v1), some (pm_i v2), u3, u4] [] (mm x R Z Y o A c G g) Q := by
  refine pW_eq 2 (pc' := 28) (L' := [some (pm_r 20 0), some (pm_i v1), some (pm_i v2), u3, u4]) (S' := [pm_r 43 0]) (M' := (mm x R Z Y o A c G g)) (fun call n => ?_) ?_
  · refine Eq.trans (b := pm_g (mm x R Z Y o A c G g) 20 0 (pm_go call ns d 68 n 28 [some (pm_r 20 0), some (pm_i v1), some (pm_i v2), u3, u4] [pm_a (R 20 0 24)] (mm x R Z Y o A c G g))) rfl ?_
    refine (g_ok (f := 20) (by decide) rfl).trans ?_
    exact (congrArg (fun z => pm_go call ns d 68 n 28 [some (pm_r 20 0), some (pm_i v1), some (pm_i v2), u3, u4] [pm_a z] (mm x R Z Y o A c G g)) (rs_20_24 hR))
  refine pW_eq 2 (pc' := 30) (L' := [some (pm_r 20 0), some (pm_i v1), some (pm_i v2), u3, u4]) (S' := [pm_i (G 43 j1)]) (M' := (mm x R Z Y o A c G g)) (fun call n => ?_) ?_
  · refine Eq.trans (b := pm_g (mm x R Z Y o A c G g) 43 0 (pm_ix (v2) 6 (fun jx => pm_go call ns d 68 n 30 [some (pm_r 20 0), some (pm_i v1), some (pm_i v2), u3, u4] [pm_i (G 43 jx)] (mm x R Z Y o A c G g)))) rfl ?_
    refine (g_ok (f := 43) (by decide) rfl).trans ?_
    refine (ix_ok (j := j1) e1 l1 (by decide)).trans ?_
    rfl
  exact pW_eq 3 (fun call n => rfl) k
set_option maxRecDepth 20000 in
theorem b68_15 (hR : RS R) {v1 : Int32} {v2 : Int32} {u3 : Option pm_V} {u4 : Option pm_V} {j1 : Nat} (e1 : v1 = nI j1) (l1 : j1 < 8)  (k : pW ns d 68 34 [some (pm_r 20 0), some (pm_i v1), some (pm_i v2), some (pm_i (G 36 j1)), some (pm_i (nI 0))] [] (mm x R Z Y o A c G g) Q) : pW ns d 68 15 [some (pm_r 20 0), some (pm_i v1), some (pm_i v2), u3, u4] [] (mm x R Z Y o A c G g) Q := by
  refine pW_eq 2 (pc' := 19) (L' := [some (pm_r 20 0), some (pm_i v1), some (pm_i v2), u3, u4]) (S' := [pm_r 36 0]) (M' := (mm x R Z Y o A c G g)) (fun call n => ?_) ?_
  · refine Eq.trans (b := pm_g (mm x R Z Y o A c G g) 20 0 (pm_go call ns d 68 n 19 [some (pm_r 20 0), some (pm_i v1), some (pm_i v2), u3, u4] [pm_a (R 20 0 16)] (mm x R Z Y o A c G g))) rfl ?_
    refine (g_ok (f := 20) (by decide) rfl).trans ?_
    exact (congrArg (fun z => pm_go call ns d 68 n 19 [some (pm_r 20 0), some (pm_i v1), some (pm_i v2), u3, u4] [pm_a z] (mm x R Z Y o A c G g)) (rs_20_16 hR))
  refine pW_eq 2 (pc' := 21) (L' := [some (pm_r 20 0), some (pm_i v1), some (pm_i v2), u3, u4]) (S' := [pm_i (G 36 j1)]) (M' := (mm x R Z Y o A c G g)) (fun call n => ?_) ?_
  · refine Eq.trans (b := pm_g (mm x R Z Y o A c G g) 36 0 (pm_ix (v1) 8 (fun jx => pm_go call ns d 68 n 21 [some (pm_r 20 0), some (pm_i v1), some (pm_i v2), u3, u4] [pm_i (G 36 jx)] (mm x R Z Y o A c G g)))) rfl ?_
    refine (g_ok (f := 36) (by decide) rfl).trans ?_
    refine (ix_ok (j := j1) e1 l1 (by decide)).trans ?_
    rfl
  exact pW_eq 4 (fun call n => rfl) k
set_option maxRecDepth 20000 in
theorem b68_34 (hR : RS R) {v1 : Int32} {v2 : Int32} {v3 : Int32} {v4 : Int32}   (k1 : v3 ≤ v4 → pW ns d 68 70 [some (pm_r 20 0), some (pm_i v1), some (pm_i v2), some (pm_i v3), some (pm_i v4)] [] (mm x R Z Y o A c G g) Q) (k2 : ¬ (v3 ≤ v4) → pW ns d 68 40 [some (pm_r 20 0), some (pm_i v1), some (pm_i v2), some (pm_i v3), some (pm_i v4)] [] (mm x R Z Y o A c G g) Q) : pW ns d 68 34 [some (pm_r 20 0), some (pm_i v1), some (pm_i v2), some (pm_i v3), some (pm_i v4)] [] (mm x R Z Y o A c G g) Q := by
  exact pW_if 3 (c := v3 ≤ v4) (fun call n => rfl) k1 k2
set_option maxRecDepth 20000 in
theorem b68_70 (hR : RS R) {v1 : Int32} {v2 : Int32} {v3 : Int32} {u4 : Option pm_V}   (k : pW ns d 68 73 [some (pm_r 20 0), some (pm_i v1), some (pm_i v2), some (pm_i v3), some (pm_i v3)] [] (mm x R Z Y o A c G g) Q) : pW ns d 68 70 [some (pm_r 20 0), some (pm_i v1), some (pm_i v2), some (pm_i v3), u4] [] (mm x R Z Y o A c G g) Q := by
  exact pW_eq 2 (fun call n => rfl) k
set_option maxRecDepth 20000 in
theorem b68_40 (hR : RS R) {v1 : Int32} {v2 : Int32} {v3 : Int32} {v4 : Int32} {j1 : Nat} {j2 : Nat} (e1 : ((nI 12) * v2) + v4 = nI j1) (l1 : j1 < 72) (e2 : ((nI 8) * v1) + v4 = nI j2) (l2 : j2 < 64)  (k : pW ns d 68 34 [some (pm_r 20 0), some (pm_i v1), some (pm_i v2), some (pm_i v3), some (pm_i (v4 + (nI 1)))] [] (mm x R Z Y o A c (pm_v G 41 j2 (G 42 j1)) g) Q) : pW ns d 68 40 [some (pm_r 20 0), some (pm_i v1), some (pm_i v2), some (pm_i v3), some (pm_i v4)] [] (mm x R Z Y o A c G g) Q := by
  refine pW_eq 2 (pc' := 44) (L' := [some (pm_r 20 0), some (pm_i v1), some (pm_i v2), some (pm_i v3), some (pm_i v4)]) (S' := [pm_r 41 0]) (M' := (mm x R Z Y o A c G g)) (fun call n => ?_) ?_
  · refine Eq.trans (b := pm_g (mm x R Z Y o A c G g) 20 0 (pm_go call ns d 68 n 44 [some (pm_r 20 0), some (pm_i v1), some (pm_i v2), some (pm_i v3), some (pm_i v4)] [pm_a (R 20 0 22)] (mm x R Z Y o A c G g))) rfl ?_
    refine (g_ok (f := 20) (by decide) rfl).trans ?_
    exact (congrArg (fun z => pm_go call ns d 68 n 44 [some (pm_r 20 0), some (pm_i v1), some (pm_i v2), some (pm_i v3), some (pm_i v4)] [pm_a z] (mm x R Z Y o A c G g)) (rs_20_22 hR))
  refine pW_eq 7 (pc' := 55) (L' := [some (pm_r 20 0), some (pm_i v1), some (pm_i v2), some (pm_i v3), some (pm_i v4)]) (S' := [pm_r 42 0, pm_i (((nI 8) * v1) + v4), pm_r 41 0]) (M' := (mm x R Z Y o A c G g)) (fun call n => ?_) ?_
  · refine Eq.trans (b := pm_g (mm x R Z Y o A c G g) 20 0 (pm_go call ns d 68 n 55 [some (pm_r 20 0), some (pm_i v1), some (pm_i v2), some (pm_i v3), some (pm_i v4)] [pm_a (R 20 0 23), pm_i (((nI 8) * v1) + v4), pm_r 41 0] (mm x R Z Y o A c G g))) rfl ?_
    refine (g_ok (f := 20) (by decide) rfl).trans ?_
    exact (congrArg (fun z => pm_go call ns d 68 n 55 [some (pm_r 20 0), some (pm_i v1), some (pm_i v2), some (pm_i v3), some (pm_i v4)] [pm_a z, pm_i (((nI 8) * v1) + v4), pm_r 41 0] (mm x R Z Y o A c G g)) (rs_20_23 hR))
  refine pW_eq 6 (pc' := 63) (L' := [some (pm_r 20 0), some (pm_i v1), some (pm_i v2), some (pm_i v3), some (pm_i v4)]) (S' := [pm_i (G 42 j1), pm_i (((nI 8) * v1) + v4), pm_r 41 0]) (M' := (mm x R Z Y o A c G g)) (fun call n => ?_) ?_
  · refine Eq.trans (b := pm_g (mm x R Z Y o A c G g) 42 0 (pm_ix (((nI 12) * v2) + v4) 72 (fun jx => pm_go call ns d 68 n 63 [some (pm_r 20 0), some (pm_i v1), some (pm_i v2), some (pm_i v3), some (pm_i v4)] [pm_i (G 42 jx), pm_i (((nI 8) * v1) + v4), pm_r 41 0] (mm x R Z Y o A c G g)))) rfl ?_
    refine (g_ok (f := 42) (by decide) rfl).trans ?_
    refine (ix_ok (j := j1) e1 l1 (by decide)).trans ?_
    rfl
  refine pW_eq 1 (pc' := 64) (L' := [some (pm_r 20 0), some (pm_i v1), some (pm_i v2), some (pm_i v3), some (pm_i v4)]) (S' := []) (M' := (mm x R Z Y o A c (pm_v G 41 j2 (G 42 j1)) g)) (fun call n => ?_) ?_
  · refine Eq.trans (b := pm_g (mm x R Z Y o A c G g) 41 0 (pm_ix (((nI 8) * v1) + v4) 64 (fun jx => pm_go call ns d 68 n 64 [some (pm_r 20 0), some (pm_i v1), some (pm_i v2), some (pm_i v3), some (pm_i v4)] [] (pm_u (mA Z A G) 41 0 jx (G 42 j1), mB Y o c g, R, pm_tot, x)))) rfl ?_
    refine (g_ok (f := 41) (by decide) rfl).trans ?_
    refine (ix_ok (j := j2) e2 l2 (by decide)).trans ?_
    exact (congrArg (fun z => pm_go call ns d 68 n 64 [some (pm_r 20 0), some (pm_i v1), some (pm_i v2), some (pm_i v3), some (pm_i v4)] [] (z, mB Y o c g, R, pm_tot, x)) (uG (by decide)))
  exact pW_eq 2 (fun call n => rfl) k
set_option maxRecDepth 20000 in
theorem b68_73 (hR : RS R) {v1 : Int32} {v2 : Int32} {v3 : Int32} {v4 : Int32} {j1 : Nat} (e1 : v2 = nI j1) (l1 : j1 < 6)  (k1 : G 43 j1 ≤ v4 → pW ns d 68 116 [some (pm_r 20 0), some (pm_i v1), some (pm_i v2), some (pm_i v3), some (pm_i v4)] [] (mm x R Z Y o A c G g) Q) (k2 : ¬ (G 43 j1 ≤ v4) → pW ns d 68 84 [some (pm_r 20 0), some (pm_i v1), some (pm_i v2), some (pm_i v3), some (pm_i v4)] [] (mm x R Z Y o A c G g) Q) : pW ns d 68 73 [some (pm_r 20 0), some (pm_i v1), some (pm_i v2), some (pm_i v3), some (pm_i v4)] [] (mm x R Z Y o A c G g) Q := by
  refine pW_eq 3 (pc' := 79) (L' := [some (pm_r 20 0), some (pm_i v1), some (pm_i v2), some (pm_i v3), some (pm_i v4)]) (S' := [pm_r 43 0, pm_i v4]) (M' := (mm x R Z Y o A c G g)) (fun call n => ?_) ?_
  · refine Eq.trans (b := pm_g (mm x R Z Y o A c G g) 20 0 (pm_go call ns d 68 n 79 [some (pm_r 20 0), some (pm_i v1), some (pm_i v2), some (pm_i v3), some (pm_i v4)] [pm_a (R 20 0 24), pm_i v4] (mm x R Z Y o A c G g))) rfl ?_
    refine (g_ok (f := 20) (by decide) rfl).trans ?_
    exact (congrArg (fun z => pm_go call ns d 68 n 79 [some (pm_r 20 0), some (pm_i v1), some (pm_i v2), some (pm_i v3), some (pm_i v4)] [pm_a z, pm_i v4] (mm x R Z Y o A c G g)) (rs_20_24 hR))
  refine pW_eq 2 (pc' := 81) (L' := [some (pm_r 20 0), some (pm_i v1), some (pm_i v2), some (pm_i v3), some (pm_i v4)]) (S' := [pm_i (G 43 j1), pm_i v4]) (M' := (mm x R Z Y o A c G g)) (fun call n => ?_) ?_
  · refine Eq.trans (b := pm_g (mm x R Z Y o A c G g) 43 0 (pm_ix (v2) 6 (fun jx => pm_go call ns d 68 n 81 [some (pm_r 20 0), some (pm_i v1), some (pm_i v2), some (pm_i v3), some (pm_i v4)] [pm_i (G 43 jx), pm_i v4] (mm x R Z Y o A c G g)))) rfl ?_
    refine (g_ok (f := 43) (by decide) rfl).trans ?_
    refine (ix_ok (j := j1) e1 l1 (by decide)).trans ?_
    rfl
  exact pW_if 1 (c := G 43 j1 ≤ v4) (fun call n => rfl) k1 k2
set_option maxRecDepth 20000 in
theorem b68_116 (hR : RS R) {v1 : Int32} {v2 : Int32} {v3 : Int32} {u4 : Option pm_V} {j1 : Nat} {j2 : Nat} (e1 : v2 = nI j1) (l1 : j1 < 6) (e2 : v1 = nI j2) (l2 : j2 < 8)  (k : Q (.inl (some (pm_i v3)), (mm x R Z Y o A c (pm_v (pm_v G 43 j1 ((G 43 j1) - v3)) 27 j2 v3) g))) : pW ns d 68 116 [some (pm_r 20 0), some (pm_i v1), some (pm_i v2), some (pm_i v3), u4] [] (mm x R Z Y o A c G g) Q := by
  refine pW_eq 2 (pc' := 120) (L' := [some (pm_r 20 0), some (pm_i v1), some (pm_i v2), some (pm_i v3), u4]) (S' := [pm_r 43 0]) (M' := (mm x R Z Y o A c G g)) (fun call n => ?_) ?_
  · refine Eq.trans (b := pm_g (mm x R Z Y o A c G g) 20 0 (pm_go call ns d 68 n 120 [some (pm_r 20 0), some (pm_i v1), some (pm_i v2), some (pm_i v3), u4] [pm_a (R 20 0 24)] (mm x R Z Y o A c G g))) rfl ?_
    refine (g_ok (f := 20) (by decide) rfl).trans ?_
    exact (congrArg (fun z => pm_go call ns d 68 n 120 [some (pm_r 20 0), some (pm_i v1), some (pm_i v2), some (pm_i v3), u4] [pm_a z] (mm x R Z Y o A c G g)) (rs_20_24 hR))
  refine pW_eq 3 (pc' := 123) (L' := [some (pm_r 20 0), some (pm_i v1), some (pm_i v2), some (pm_i v3), u4]) (S' := [pm_i (G 43 j1), pm_i v2, pm_r 43 0]) (M' := (mm x R Z Y o A c G g)) (fun call n => ?_) ?_
  · refine Eq.trans (b := pm_g (mm x R Z Y o A c G g) 43 0 (pm_ix (v2) 6 (fun jx => pm_go call ns d 68 n 123 [some (pm_r 20 0), some (pm_i v1), some (pm_i v2), some (pm_i v3), u4] [pm_i (G 43 jx), pm_i v2, pm_r 43 0] (mm x R Z Y o A c G g)))) rfl ?_
    refine (g_ok (f := 43) (by decide) rfl).trans ?_
    refine (ix_ok (j := j1) e1 l1 (by decide)).trans ?_
    rfl
  refine pW_eq 3 (pc' := 126) (L' := [some (pm_r 20 0), some (pm_i v1), some (pm_i v2), some (pm_i v3), u4]) (S' := []) (M' := (mm x R Z Y o A c (pm_v G 43 j1 ((G 43 j1) - v3)) g)) (fun call n => ?_) ?_
  · refine Eq.trans (b := pm_g (mm x R Z Y o A c G g) 43 0 (pm_ix (v2) 6 (fun jx => pm_go call ns d 68 n 126 [some (pm_r 20 0), some (pm_i v1), some (pm_i v2), some (pm_i v3), u4] [] (pm_u (mA Z A G) 43 0 jx ((G 43 j1) - v3), mB Y o c g, R, pm_tot, x)))) rfl ?_
    refine (g_ok (f := 43) (by decide) rfl).trans ?_
    refine (ix_ok (j := j1) e1 l1 (by decide)).trans ?_
    exact (congrArg (fun z => pm_go call ns d 68 n 126 [some (pm_r 20 0), some (pm_i v1), some (pm_i v2), some (pm_i v3), u4] [] (z, mB Y o c g, R, pm_tot, x)) (uG (by decide)))
  refine pW_eq 2 (pc' := 130) (L' := [some (pm_r 20 0), some (pm_i v1), some (pm_i v2), some (pm_i v3), u4]) (S' := [pm_r 27 0]) (M' := (mm x R Z Y o A c (pm_v G 43 j1 ((G 43 j1) - v3)) g)) (fun call n => ?_) ?_
  · refine Eq.trans (b := pm_g (mm x R Z Y o A c (pm_v G 43 j1 ((G 43 j1) - v3)) g) 20 0 (pm_go call ns d 68 n 130 [some (pm_r 20 0), some (pm_i v1), some (pm_i v2), some (pm_i v3), u4] [pm_a (R 20 0 7)] (mm x R Z Y o A c (pm_v G 43 j1 ((G 43 j1) - v3)) g))) rfl ?_
    refine (g_ok (f := 20) (by decide) rfl).trans ?_
    exact (congrArg (fun z => pm_go call ns d 68 n 130 [some (pm_r 20 0), some (pm_i v1), some (pm_i v2), some (pm_i v3), u4] [pm_a z] (mm x R Z Y o A c (pm_v G 43 j1 ((G 43 j1) - v3)) g)) (rs_20_7 hR))
  refine pW_eq 3 (pc' := 133) (L' := [some (pm_r 20 0), some (pm_i v1), some (pm_i v2), some (pm_i v3), u4]) (S' := []) (M' := (mm x R Z Y o A c (pm_v (pm_v G 43 j1 ((G 43 j1) - v3)) 27 j2 v3) g)) (fun call n => ?_) ?_
  · refine Eq.trans (b := pm_g (mm x R Z Y o A c (pm_v G 43 j1 ((G 43 j1) - v3)) g) 27 0 (pm_ix (v1) 8 (fun jx => pm_go call ns d 68 n 133 [some (pm_r 20 0), some (pm_i v1), some (pm_i v2), some (pm_i v3), u4] [] (pm_u (mA Z A (pm_v G 43 j1 ((G 43 j1) - v3))) 27 0 jx v3, mB Y o c g, R, pm_tot, x)))) rfl ?_
    refine (g_ok (f := 27) (by decide) rfl).trans ?_
    refine (ix_ok (j := j2) e2 l2 (by decide)).trans ?_
    exact (congrArg (fun z => pm_go call ns d 68 n 133 [some (pm_r 20 0), some (pm_i v1), some (pm_i v2), some (pm_i v3), u4] [] (z, mB Y o c g, R, pm_tot, x)) (uG (by decide)))
  refine pW_ret 2 (fun call n => ?_) k
  rfl
set_option maxRecDepth 20000 in
theorem b68_84 (hR : RS R) {v1 : Int32} {v2 : Int32} {v3 : Int32} {v4 : Int32} {j1 : Nat} {j2 : Nat} (e1 : ((nI 12) * v2) + v4 = nI j1) (l1 : j1 < 72) (e2 : (((nI 12) * v2) + v4) - v3 = nI j2) (l2 : j2 < 72)  (k : pW ns d 68 73 [some (pm_r 20 0), some (pm_i v1), some (pm_i v2), some (pm_i v3), some (pm_i (v4 + (nI 1)))] [] (mm x R Z Y o A c (pm_v G 42 j2 (G 42 j1)) g) Q) : pW ns d 68 84 [some (pm_r 20 0), some (pm_i v1), some (pm_i v2), some (pm_i v3), some (pm_i v4)] [] (mm x R Z Y o A c G g) Q := by
  refine pW_eq 2 (pc' := 88) (L' := [some (pm_r 20 0), some (pm_i v1), some (pm_i v2), some (pm_i v3), some (pm_i v4)]) (S' := [pm_r 42 0]) (M' := (mm x R Z Y o A c G g)) (fun call n => ?_) ?_
  · refine Eq.trans (b := pm_g (mm x R Z Y o A c G g) 20 0 (pm_go call ns d 68 n 88 [some (pm_r 20 0), some (pm_i v1), some (pm_i v2), some (pm_i v3), some (pm_i v4)] [pm_a (R 20 0 23)] (mm x R Z Y o A c G g))) rfl ?_
    refine (g_ok (f := 20) (by decide) rfl).trans ?_
    exact (congrArg (fun z => pm_go call ns d 68 n 88 [some (pm_r 20 0), some (pm_i v1), some (pm_i v2), some (pm_i v3), some (pm_i v4)] [pm_a z] (mm x R Z Y o A c G g)) (rs_20_23 hR))
  refine pW_eq 9 (pc' := 101) (L' := [some (pm_r 20 0), some (pm_i v1), some (pm_i v2), some (pm_i v3), some (pm_i v4)]) (S' := [pm_r 42 0, pm_i ((((nI 12) * v2) + v4) - v3), pm_r 42 0]) (M' := (mm x R Z Y o A c G g)) (fun call n => ?_) ?_
  · refine Eq.trans (b := pm_g (mm x R Z Y o A c G g) 20 0 (pm_go call ns d 68 n 101 [some (pm_r 20 0), some (pm_i v1), some (pm_i v2), some (pm_i v3), some (pm_i v4)] [pm_a (R 20 0 23), pm_i ((((nI 12) * v2) + v4) - v3), pm_r 42 0] (mm x R Z Y o A c G g))) rfl ?_
    refine (g_ok (f := 20) (by decide) rfl).trans ?_
    exact (congrArg (fun z => pm_go call ns d 68 n 101 [some (pm_r 20 0), some (pm_i v1), some (pm_i v2), some (pm_i v3), some (pm_i v4)] [pm_a z, pm_i ((((nI 12) * v2) + v4) - v3), pm_r 42 0] (mm x R Z Y o A c G g)) (rs_20_23 hR))
  refine pW_eq 6 (pc' := 109) (L' := [some (pm_r 20 0), some (pm_i v1), some (pm_i v2), some (pm_i v3), some (pm_i v4)]) (S' := [pm_i (G 42 j1), pm_i ((((nI 12) * v2) + v4) - v3), pm_r 42 0]) (M' := (mm x R Z Y o A c G g)) (fun call n => ?_) ?_
  · refine Eq.trans (b := pm_g (mm x R Z Y o A c G g) 42 0 (pm_ix (((nI 12) * v2) + v4) 72 (fun jx => pm_go call ns d 68 n 109 [some (pm_r 20 0), some (pm_i v1), some (pm_i v2), some (pm_i v3), some (pm_i v4)] [pm_i (G 42 jx), pm_i ((((nI 12) * v2) + v4) - v3), pm_r 42 0] (mm x R Z Y o A c G g)))) rfl ?_
    refine (g_ok (f := 42) (by decide) rfl).trans ?_
    refine (ix_ok (j := j1) e1 l1 (by decide)).trans ?_
    rfl
  refine pW_eq 1 (pc' := 110) (L' := [some (pm_r 20 0), some (pm_i v1), some (pm_i v2), some (pm_i v3), some (pm_i v4)]) (S' := []) (M' := (mm x R Z Y o A c (pm_v G 42 j2 (G 42 j1)) g)) (fun call n => ?_) ?_
  · refine Eq.trans (b := pm_g (mm x R Z Y o A c G g) 42 0 (pm_ix ((((nI 12) * v2) + v4) - v3) 72 (fun jx => pm_go call ns d 68 n 110 [some (pm_r 20 0), some (pm_i v1), some (pm_i v2), some (pm_i v3), some (pm_i v4)] [] (pm_u (mA Z A G) 42 0 jx (G 42 j1), mB Y o c g, R, pm_tot, x)))) rfl ?_
    refine (g_ok (f := 42) (by decide) rfl).trans ?_
    refine (ix_ok (j := j2) e2 l2 (by decide)).trans ?_
    exact (congrArg (fun z => pm_go call ns d 68 n 110 [some (pm_r 20 0), some (pm_i v1), some (pm_i v2), some (pm_i v3), some (pm_i v4)] [] (z, mB Y o c g, R, pm_tot, x)) (uG (by decide)))
  exact pW_eq 2 (fun call n => rfl) k
set_option maxRecDepth 20000 in
theorem t68_0 (hR : RS R) {v1 : Int32} {v2 : Int32} {u3 : Option pm_V} {u4 : Option pm_V} {j1 : Nat} {j2 : Nat} (e1 : v1 = nI j1) (l1 : j1 < 8) (e2 : v2 = nI j2) (l2 : j2 < 6) (k1 : (G 43 j2 ≤ G 36 j1) → pW ns d 68 34 [some (pm_r 20 0), some (pm_i v1), some (pm_i v2), some (pm_i (G 43 j2)), some (pm_i (nI 0))] [] (mm x R Z Y o A c G g) Q) (k2 : (¬ (G 43 j2 ≤ G 36 j1)) → pW ns d 68 34 [some (pm_r 20 0), some (pm_i v1), some (pm_i v2), some (pm_i (G 36 j1)), some (pm_i (nI 0))] [] (mm x R Z Y o A c G g) Q) : pW ns d 68 0 [some (pm_r 20 0), some (pm_i v1), some (pm_i v2), u3, u4] [] (mm x R Z Y o A c G g) Q := by
  refine b68_0 hR e1 l1 e2 l2 (fun h1 => ?_) (fun h1 => ?_)
  · skip
    exact b68_24 hR  e2 l2 (k1 h1)
  · skip
    exact b68_15 hR  e1 l1 (k2 h1)
set_option maxRecDepth 20000 in
theorem t68_34 (hR : RS R) {v1 : Int32} {v2 : Int32} {v3 : Int32} {v4 : Int32}  (k1 : (v3 ≤ v4) → pW ns d 68 73 [some (pm_r 20 0), some (pm_i v1), some (pm_i v2), some (pm_i v3), some (pm_i v3)] [] (mm x R Z Y o A c G g) Q) (k2 : (¬ (v3 ≤ v4)) → pW ns d 68 40 [some (pm_r 20 0), some (pm_i v1), some (pm_i v2), some (pm_i v3), some (pm_i v4)] [] (mm x R Z Y o A c G g) Q) : pW ns d 68 34 [some (pm_r 20 0), some (pm_i v1), some (pm_i v2), some (pm_i v3), some (pm_i v4)] [] (mm x R Z Y o A c G g) Q := by
  refine b68_34 hR  (fun h1 => ?_) (fun h1 => ?_)
  · skip
    exact b68_70 hR   (k1 h1)
  · skip
    exact (k2 h1)
set_option maxRecDepth 20000 in
theorem t68_73 (hR : RS R) {v1 : Int32} {v2 : Int32} {v3 : Int32} {v4 : Int32} {j1 : Nat} (e1 : v2 = nI j1) (l1 : j1 < 6) (k1 : (G 43 j1 ≤ v4) → pW ns d 68 116 [some (pm_r 20 0), some (pm_i v1), some (pm_i v2), some (pm_i v3), some (pm_i v4)] [] (mm x R Z Y o A c G g) Q) (k2 : (¬ (G 43 j1 ≤ v4)) → pW ns d 68 84 [some (pm_r 20 0), some (pm_i v1), some (pm_i v2), some (pm_i v3), some (pm_i v4)] [] (mm x R Z Y o A c G g) Q) : pW ns d 68 73 [some (pm_r 20 0), some (pm_i v1), some (pm_i v2), some (pm_i v3), some (pm_i v4)] [] (mm x R Z Y o A c G g) Q := by
  refine b68_73 hR e1 l1 (fun h1 => ?_) (fun h1 => ?_)
  · skip
    exact (k1 h1)
  · skip
    exact (k2 h1)
/-! 69 JobLayerModel.giveBytes -/
set_option maxRecDepth 20000 in
theorem b69_0 (hR : RS R) {v1 : Int32} {v2 : Int32} {u3 : Option pm_V} {u4 : Option pm_V} {u5 : Option pm_V} {u6 : Option pm_V} {j1 : Nat} (e1 : v1 = nI j1) (l1 : j1 < 8)  (k1 : v2 ≤ nI 1 → pW ns d 69 25 [some (pm_r 20 0), some (pm_i v1), some (pm_i v2), some (pm_i (G 36 j1)), u4, u5, u6] [] (mm x R Z Y o A c G g) Q) (k2 : ¬ (v2 ≤ nI 1) → pW ns d 69 12 [some (pm_r 20 0), some (pm_i v1), some (pm_i v2), some (pm_i (G 36 j1)), u4, u5, u6] [] (mm x R Z Y o A c G g) Q) : pW ns d 69 0 [some (pm_r 20 0), some (pm_i v1), some (pm_i v2), u3, u4, u5, u6] [] (mm x R Z Y o A c G g) Q := by
  refine pW_eq 2 (pc' := 4) (L' := [some (pm_r 20 0), some (pm_i v1), some (pm_i v2), u3, u4, u5, u6]) (S' := [pm_r 36 0]) (M' := (mm x R Z Y o A c G g)) (fun call n => ?_) ?_
  · refine Eq.trans (b := pm_g (mm x R Z Y o A c G g) 20 0 (pm_go call ns d 69 n 4 [some (pm_r 20 0), some (pm_i v1), some (pm_i v2), u3, u4, u5, u6] [pm_a (R 20 0 16)] (mm x R Z Y o A c G g))) rfl ?_
    refine (g_ok (f := 20) (by decide) rfl).trans ?_
    exact (congrArg (fun z => pm_go call ns d 69 n 4 [some (pm_r 20 0), some (pm_i v1), some (pm_i v2), u3, u4, u5, u6] [pm_a z] (mm x R Z Y o A c G g)) (rs_20_16 hR))
  refine pW_eq 2 (pc' := 6) (L' := [some (pm_r 20 0), some (pm_i v1), some (pm_i v2), u3, u4, u5, u6]) (S' := [pm_i (G 36 j1)]) (M' := (mm x R Z Y o A c G g)) (fun call n => ?_) ?_
  · refine Eq.trans (b := pm_g (mm x R Z Y o A c G g) 36 0 (pm_ix (v1) 8 (fun jx => pm_go call ns d 69 n 6 [some (pm_r 20 0), some (pm_i v1), some (pm_i v2), u3, u4, u5, u6] [pm_i (G 36 jx)] (mm x R Z Y o A c G g)))) rfl ?_
    refine (g_ok (f := 36) (by decide) rfl).trans ?_
    refine (ix_ok (j := j1) e1 l1 (by decide)).trans ?_
    rfl
  exact pW_if 4 (c := v2 ≤ nI 1) (fun call n => rfl) k1 k2
set_option maxRecDepth 20000 in
theorem b69_25 (hR : RS R) {v1 : Int32} {v2 : Int32} {v3 : Int32} {u4 : Option pm_V} {u5 : Option pm_V} {u6 : Option pm_V}   (k : pW ns d 69 28 [some (pm_r 20 0), some (pm_i v1), some (pm_i v2), some (pm_i v3), some (pm_i (nI 0)), u5, u6] [] (mm x R Z Y o A c G g) Q) : pW ns d 69 25 [some (pm_r 20 0), some (pm_i v1), some (pm_i v2), some (pm_i v3), u4, u5, u6] [] (mm x R Z Y o A c G g) Q := by
  exact pW_eq 2 (fun call n => rfl) k
set_option maxRecDepth 20000 in
theorem b69_12 (hR : RS R) {v1 : Int32} {v2 : Int32} {v3 : Int32} {u4 : Option pm_V} {u5 : Option pm_V} {u6 : Option pm_V}  {x2 : Nat} {o2 : Int64} {A2 : Nat → Nat → Nat → Int32} {c2 : Nat → Int64} {G2 : Nat → Nat → Int32} {g2 : Nat → Int64} {y : Int32} (hE : pE ns d 49 [pm_r 20 0, pm_i (v2 - (nI 1))] (mm x R Z Y o A c G g) (.inl (some (pm_i y)), (mm x2 R Z Y o2 A2 c2 G2 g2))) (k : pW ns d 69 19 [some (pm_r 20 0), some (pm_i v1), some (pm_i v2), some (pm_i v3), u4, u5, u6] [pm_i y] (mm x2 R Z Y o2 A2 c2 G2 g2) Q) : pW ns d 69 12 [some (pm_r 20 0), some (pm_i v1), some (pm_i v2), some (pm_i v3), u4, u5, u6] [] (mm x R Z Y o A c G g) Q := by
  refine pW_call (pc' := 16) (r := []) (L' := [some (pm_r 20 0), some (pm_i v1), some (pm_i v2), some (pm_i v3), u4, u5, u6]) 5 (fun call n => ?_) hE k
  exact Eq.trans (b := pm_g (mm x R Z Y o A c G g) 20 0 (pm_cl call 69 (pm_go call ns d 69 n) 16 49 [pm_r 20 0, pm_i (v2 - (nI 1))] [] [some (pm_r 20 0), some (pm_i v1), some (pm_i v2), some (pm_i v3), u4, u5, u6] (mm x R Z Y o A c G g))) rfl (g_ok (f := 20) (by decide) rfl)
set_option maxRecDepth 20000 in
theorem b69_28 (hR : RS R) {v1 : Int32} {v2 : Int32} {v3 : Int32} {v4 : Int32} {u5 : Option pm_V} {u6 : Option pm_V}   (k1 : v3 ≤ v4 → pW ns d 69 129 [some (pm_r 20 0), some (pm_i v1), some (pm_i v2), some (pm_i v3), some (pm_i v4), u5, u6] [] (mm x R Z Y o A c G g) Q) (k2 : ¬ (v3 ≤ v4) → pW ns d 69 34 [some (pm_r 20 0), some (pm_i v1), some (pm_i v2), some (pm_i v3), some (pm_i v4), u5, u6] [] (mm x R Z Y o A c G g) Q) : pW ns d 69 28 [some (pm_r 20 0), some (pm_i v1), some (pm_i v2), some (pm_i v3), some (pm_i v4), u5, u6] [] (mm x R Z Y o A c G g) Q := by
  exact pW_if 3 (c := v3 ≤ v4) (fun call n => rfl) k1 k2
set_option maxRecDepth 20000 in
theorem b69_19 (hR : RS R) {v1 : Int32} {v2 : Int32} {v3 : Int32} {u4 : Option pm_V} {u5 : Option pm_V} {u6 : Option pm_V} {vs0 : Int32}   (k1 : vs0 = 0 → pW ns d 69 22 [some (pm_r 20 0), some (pm_i v1), some (pm_i v2), some (pm_i v3), u4, u5, u6] [] (mm x R Z Y o A c G g) Q) (k2 : ¬ (vs0 = 0) → pW ns d 69 25 [some (pm_r 20 0), some (pm_i v1), some (pm_i v2), some (pm_i v3), u4, u5, u6] [] (mm x R Z Y o A c G g) Q) : pW ns d 69 19 [some (pm_r 20 0), some (pm_i v1), some (pm_i v2), some (pm_i v3), u4, u5, u6] [pm_i vs0] (mm x R Z Y o A c G g) Q := by
  exact pW_if 1 (c := vs0 = 0) (fun call n => rfl) k1 k2
set_option maxRecDepth 20000 in
theorem b69_129 (hR : RS R) {u0 : Option pm_V} {u1 : Option pm_V} {u2 : Option pm_V} {v3 : Int32} {u4 : Option pm_V} {u5 : Option pm_V} {u6 : Option pm_V}   (k : Q (.inl (some (pm_i v3)), (mm x R Z Y o A c G g))) : pW ns d 69 129 [u0, u1, u2, some (pm_i v3), u4, u5, u6] [] (mm x R Z Y o A c G g) Q := by
  refine pW_ret 2 (fun call n => ?_) k
  rfl
set_option maxRecDepth 20000 in
theorem b69_34 (hR : RS R) {v1 : Int32} {v2 : Int32} {v3 : Int32} {v4 : Int32} {u5 : Option pm_V} {u6 : Option pm_V} {j1 : Nat} (e1 : v1 = nI j1) (l1 : j1 < 8)  (k1 : v2 = nI 1 → pW ns d 69 58 [some (pm_r 20 0), some (pm_i v1), some (pm_i v2), some (pm_i v3), some (pm_i v4), some (pm_i ((((g j1) >>> (((nI 8) * v4).toInt64 &&& 63)).toInt32) &&& (nI 255))), u6] [] (mm x R Z Y o A c G g) Q) (k2 : ¬ (v2 = nI 1) → pW ns d 69 85 [some (pm_r 20 0), some (pm_i v1), some (pm_i v2), some (pm_i v3), some (pm_i v4), some (pm_i ((((g j1) >>> (((nI 8) * v4).toInt64 &&& 63)).toInt32) &&& (nI 255))), u6] [] (mm x R Z Y o A c G g) Q) : pW ns d 69 34 [some (pm_r 20 0), some (pm_i v1), some (pm_i v2), some (pm_i v3), some (pm_i v4), u5, u6] [] (mm x R Z Y o A c G g) Q := by
  refine pW_eq 2 (pc' := 38) (L' := [some (pm_r 20 0), some (pm_i v1), some (pm_i v2), some (pm_i v3), some (pm_i v4), u5, u6]) (S' := [pm_r 37 0]) (M' := (mm x R Z Y o A c G g)) (fun call n => ?_) ?_
  · refine Eq.trans (b := pm_g (mm x R Z Y o A c G g) 20 0 (pm_go call ns d 69 n 38 [some (pm_r 20 0), some (pm_i v1), some (pm_i v2), some (pm_i v3), some (pm_i v4), u5, u6] [pm_a (R 20 0 17)] (mm x R Z Y o A c G g))) rfl ?_
    refine (g_ok (f := 20) (by decide) rfl).trans ?_
    exact (congrArg (fun z => pm_go call ns d 69 n 38 [some (pm_r 20 0), some (pm_i v1), some (pm_i v2), some (pm_i v3), some (pm_i v4), u5, u6] [pm_a z] (mm x R Z Y o A c G g)) (rs_20_17 hR))
  refine pW_eq 2 (pc' := 40) (L' := [some (pm_r 20 0), some (pm_i v1), some (pm_i v2), some (pm_i v3), some (pm_i v4), u5, u6]) (S' := [pm_l (g j1)]) (M' := (mm x R Z Y o A c G g)) (fun call n => ?_) ?_
  · refine Eq.trans (b := pm_g (mm x R Z Y o A c G g) 37 0 (pm_ix (v1) 8 (fun jx => pm_go call ns d 69 n 40 [some (pm_r 20 0), some (pm_i v1), some (pm_i v2), some (pm_i v3), some (pm_i v4), u5, u6] [pm_l (g jx)] (mm x R Z Y o A c G g)))) rfl ?_
    refine (g_ok (f := 37) (by decide) rfl).trans ?_
    refine (ix_ok (j := j1) e1 l1 (by decide)).trans ?_
    rfl
  exact pW_if 11 (c := v2 = nI 1) (fun call n => rfl) k1 k2
set_option maxRecDepth 20000 in
theorem b69_22 (hR : RS R) {u0 : Option pm_V} {u1 : Option pm_V} {u2 : Option pm_V} {u3 : Option pm_V} {u4 : Option pm_V} {u5 : Option pm_V} {u6 : Option pm_V}   (k : Q (.inl (some (pm_i (-nI 6))), (mm x R Z Y o A c G g))) : pW ns d 69 22 [u0, u1, u2, u3, u4, u5, u6] [] (mm x R Z Y o A c G g) Q := by
  refine pW_ret 2 (fun call n => ?_) k
  rfl
set_option maxRecDepth 20000 in
theorem b69_58 (hR : RS R) {v1 : Int32} {v2 : Int32} {v3 : Int32} {v4 : Int32} {v5 : Int32} {u6 : Option pm_V} {j1 : Nat} (e1 : (G 20 28) - (G 20 28) / (nI 64) * (nI 64) = nI j1) (l1 : j1 < 64)  (k : pW ns d 69 28 [some (pm_r 20 0), some (pm_i v1), some (pm_i v2), some (pm_i v3), some (pm_i (v4 + (nI 1))), some (pm_i v5), u6] [] (mm x R Z Y o A c (pm_v (pm_v G 46 j1 v5) 20 28 (((pm_v G 46 j1 v5) 20 28) + (nI 1))) g) Q) : pW ns d 69 58 [some (pm_r 20 0), some (pm_i v1), some (pm_i v2), some (pm_i v3), some (pm_i v4), some (pm_i v5), u6] [] (mm x R Z Y o A c G g) Q := by
  refine pW_eq 2 (pc' := 62) (L' := [some (pm_r 20 0), some (pm_i v1), some (pm_i v2), some (pm_i v3), some (pm_i v4), some (pm_i v5), u6]) (S' := [pm_r 46 0]) (M' := (mm x R Z Y o A c G g)) (fun call n => ?_) ?_
  · refine Eq.trans (b := pm_g (mm x R Z Y o A c G g) 20 0 (pm_go call ns d 69 n 62 [some (pm_r 20 0), some (pm_i v1), some (pm_i v2), some (pm_i v3), some (pm_i v4), some (pm_i v5), u6] [pm_a (R 20 0 31)] (mm x R Z Y o A c G g))) rfl ?_
    refine (g_ok (f := 20) (by decide) rfl).trans ?_
    exact (congrArg (fun z => pm_go call ns d 69 n 62 [some (pm_r 20 0), some (pm_i v1), some (pm_i v2), some (pm_i v3), some (pm_i v4), some (pm_i v5), u6] [pm_a z] (mm x R Z Y o A c G g)) (rs_20_31 hR))
  refine pW_eq 2 (pc' := 66) (L' := [some (pm_r 20 0), some (pm_i v1), some (pm_i v2), some (pm_i v3), some (pm_i v4), some (pm_i v5), u6]) (S' := [pm_i (G 20 28), pm_r 46 0]) (M' := (mm x R Z Y o A c G g)) (fun call n => ?_) ?_
  · refine Eq.trans (b := pm_g (mm x R Z Y o A c G g) 20 0 (pm_go call ns d 69 n 66 [some (pm_r 20 0), some (pm_i v1), some (pm_i v2), some (pm_i v3), some (pm_i v4), some (pm_i v5), u6] [pm_i (G 20 28), pm_r 46 0] (mm x R Z Y o A c G g))) rfl ?_
    refine (g_ok (f := 20) (by decide) rfl).trans ?_
    rfl
  refine pW_eq 2 (pc' := 69) (L' := [some (pm_r 20 0), some (pm_i v1), some (pm_i v2), some (pm_i v3), some (pm_i v4), some (pm_i v5), u6]) (S' := [pm_i ((G 20 28) - (G 20 28) / (nI 64) * (nI 64)), pm_r 46 0]) (M' := (mm x R Z Y o A c G g)) (fun call n => ?_) ?_
  · refine Eq.trans (b := if (nI 64) = 0 then none else pm_go call ns d 69 n 69 [some (pm_r 20 0), some (pm_i v1), some (pm_i v2), some (pm_i v3), some (pm_i v4), some (pm_i v5), u6] [pm_i ((G 20 28) - (G 20 28) / (nI 64) * (nI 64)), pm_r 46 0] (mm x R Z Y o A c G g)) rfl ?_
    refine (if_neg (by decide)).trans ?_
    rfl
  refine pW_eq 2 (pc' := 72) (L' := [some (pm_r 20 0), some (pm_i v1), some (pm_i v2), some (pm_i v3), some (pm_i v4), some (pm_i v5), u6]) (S' := []) (M' := (mm x R Z Y o A c (pm_v G 46 j1 v5) g)) (fun call n => ?_) ?_
  · refine Eq.trans (b := pm_g (mm x R Z Y o A c G g) 46 0 (pm_ix ((G 20 28) - (G 20 28) / (nI 64) * (nI 64)) 64 (fun jx => pm_go call ns d 69 n 72 [some (pm_r 20 0), some (pm_i v1), some (pm_i v2), some (pm_i v3), some (pm_i v4), some (pm_i v5), u6] [] (pm_u (mA Z A G) 46 0 jx v5, mB Y o c g, R, pm_tot, x)))) rfl ?_
    refine (g_ok (f := 46) (by decide) rfl).trans ?_
    refine (ix_ok (j := j1) e1 l1 (by decide)).trans ?_
    exact (congrArg (fun z => pm_go call ns d 69 n 72 [some (pm_r 20 0), some (pm_i v1), some (pm_i v2), some (pm_i v3), some (pm_i v4), some (pm_i v5), u6] [] (z, mB Y o c g, R, pm_tot, x)) (uG (by decide)))
  refine pW_eq 3 (pc' := 77) (L' := [some (pm_r 20 0), some (pm_i v1), some (pm_i v2), some (pm_i v3), some (pm_i v4), some (pm_i v5), u6]) (S' := [pm_i ((pm_v G 46 j1 v5) 20 28), pm_r 20 0]) (M' := (mm x R Z Y o A c (pm_v G 46 j1 v5) g)) (fun call n => ?_) ?_
  · refine Eq.trans (b := pm_g (mm x R Z Y o A c (pm_v G 46 j1 v5) g) 20 0 (pm_go call ns d 69 n 77 [some (pm_r 20 0), some (pm_i v1), some (pm_i v2), some (pm_i v3), some (pm_i v4), some (pm_i v5), u6] [pm_i ((pm_v G 46 j1 v5) 20 28), pm_r 20 0] (mm x R Z Y o A c (pm_v G 46 j1 v5) g))) rfl ?_
    refine (g_ok (f := 20) (by decide) rfl).trans ?_
    rfl
  refine pW_eq 3 (pc' := 82) (L' := [some (pm_r 20 0), some (pm_i v1), some (pm_i v2), some (pm_i v3), some (pm_i v4), some (pm_i v5), u6]) (S' := []) (M' := (mm x R Z Y o A c (pm_v (pm_v G 46 j1 v5) 20 28 (((pm_v G 46 j1 v5) 20 28) + (nI 1))) g)) (fun call n => ?_) ?_
  · refine Eq.trans (b := pm_g (mm x R Z Y o A c (pm_v G 46 j1 v5) g) 20 0 (pm_go call ns d 69 n 82 [some (pm_r 20 0), some (pm_i v1), some (pm_i v2), some (pm_i v3), some (pm_i v4), some (pm_i v5), u6] [] (pm_u (mA Z A (pm_v G 46 j1 v5)) 20 0 28 (((pm_v G 46 j1 v5) 20 28) + (nI 1)), mB Y o c g, R, pm_tot, x))) rfl ?_
    refine (g_ok (f := 20) (by decide) rfl).trans ?_
    exact (congrArg (fun z => pm_go call ns d 69 n 82 [some (pm_r 20 0), some (pm_i v1), some (pm_i v2), some (pm_i v3), some (pm_i v4), some (pm_i v5), u6] [] (z, mB Y o c g, R, pm_tot, x)) (uG (by decide)))
  exact pW_eq 3 (fun call n => rfl) k
set_option maxRecDepth 20000 in
theorem b69_85 (hR : RS R) {v1 : Int32} {v2 : Int32} {v3 : Int32} {v4 : Int32} {v5 : Int32} {u6 : Option pm_V} {j1 : Nat} {j2 : Nat} (e1 : (v2 / (nI 2)) - (nI 1) = nI j1) (l1 : j1 < 6) (e2 : ((nI 12) * ((v2 / (nI 2)) - (nI 1))) + (G 43 j1) = nI j2) (l2 : j2 < 72)  (k : pW ns d 69 28 [some (pm_r 20 0), some (pm_i v1), some (pm_i v2), some (pm_i v3), some (pm_i (v4 + (nI 1))), some (pm_i v5), some (pm_i ((v2 / (nI 2)) - (nI 1)))] [] (mm x R Z Y o A c (pm_v (pm_v G 42 j2 v5) 43 j1 (((pm_v G 42 j2 v5) 43 j1) + (nI 1))) g) Q) : pW ns d 69 85 [some (pm_r 20 0), some (pm_i v1), some (pm_i v2), some (pm_i v3), some (pm_i v4), some (pm_i v5), u6] [] (mm x R Z Y o A c G g) Q := by
  refine pW_eq 3 (pc' := 88) (L' := [some (pm_r 20 0), some (pm_i v1), some (pm_i v2), some (pm_i v3), some (pm_i v4), some (pm_i v5), u6]) (S' := [pm_i (v2 / (nI 2))]) (M' := (mm x R Z Y o A c G g)) (fun call n => ?_) ?_
  · refine Eq.trans (b := if (nI 2) = 0 then none else pm_go call ns d 69 n 88 [some (pm_r 20 0), some (pm_i v1), some (pm_i v2), some (pm_i v3), some (pm_i v4), some (pm_i v5), u6] [pm_i (v2 / (nI 2))] (mm x R Z Y o A c G g)) rfl ?_
    refine (if_neg (by decide)).trans ?_
    rfl
  refine pW_eq 5 (pc' := 96) (L' := [some (pm_r 20 0), some (pm_i v1), some (pm_i v2), some (pm_i v3), some (pm_i v4), some (pm_i v5), some (pm_i ((v2 / (nI 2)) - (nI 1)))]) (S' := [pm_r 42 0]) (M' := (mm x R Z Y o A c G g)) (fun call n => ?_) ?_
  · refine Eq.trans (b := pm_g (mm x R Z Y o A c G g) 20 0 (pm_go call ns d 69 n 96 [some (pm_r 20 0), some (pm_i v1), some (pm_i v2), some (pm_i v3), some (pm_i v4), some (pm_i v5), some (pm_i ((v2 / (nI 2)) - (nI 1)))] [pm_a (R 20 0 23)] (mm x R Z Y o A c G g))) rfl ?_
    refine (g_ok (f := 20) (by decide) rfl).trans ?_
    exact (congrArg (fun z => pm_go call ns d 69 n 96 [some (pm_r 20 0), some (pm_i v1), some (pm_i v2), some (pm_i v3), some (pm_i v4), some (pm_i v5), some (pm_i ((v2 / (nI 2)) - (nI 1)))] [pm_a z] (mm x R Z Y o A c G g)) (rs_20_23 hR))
  refine pW_eq 5 (pc' := 105) (L' := [some (pm_r 20 0), some (pm_i v1), some (pm_i v2), some (pm_i v3), some (pm_i v4), some (pm_i v5), some (pm_i ((v2 / (nI 2)) - (nI 1)))]) (S' := [pm_r 43 0, pm_i ((nI 12) * ((v2 / (nI 2)) - (nI 1))), pm_r 42 0]) (M' := (mm x R Z Y o A c G g)) (fun call n => ?_) ?_
  · refine Eq.trans (b := pm_g (mm x R Z Y o A c G g) 20 0 (pm_go call ns d 69 n 105 [some (pm_r 20 0), some (pm_i v1), some (pm_i v2), some (pm_i v3), some (pm_i v4), some (pm_i v5), some (pm_i ((v2 / (nI 2)) - (nI 1)))] [pm_a (R 20 0 24), pm_i ((nI 12) * ((v2 / (nI 2)) - (nI 1))), pm_r 42 0] (mm x R Z Y o A c G g))) rfl ?_
    refine (g_ok (f := 20) (by decide) rfl).trans ?_
    exact (congrArg (fun z => pm_go call ns d 69 n 105 [some (pm_r 20 0), some (pm_i v1), some (pm_i v2), some (pm_i v3), some (pm_i v4), some (pm_i v5), some (pm_i ((v2 / (nI 2)) - (nI 1)))] [pm_a z, pm_i ((nI 12) * ((v2 / (nI 2)) - (nI 1))), pm_r 42 0] (mm x R Z Y o A c G g)) (rs_20_24 hR))
  refine pW_eq 2 (pc' := 108) (L' := [some (pm_r 20 0), some (pm_i v1), some (pm_i v2), some (pm_i v3), some (pm_i v4), some (pm_i v5), some (pm_i ((v2 / (nI 2)) - (nI 1)))]) (S' := [pm_i (G 43 j1), pm_i ((nI 12) * ((v2 / (nI 2)) - (nI 1))), pm_r 42 0]) (M' := (mm x R Z Y o A c G g)) (fun call n => ?_) ?_
  · refine Eq.trans (b := pm_g (mm x R Z Y o A c G g) 43 0 (pm_ix ((v2 / (nI 2)) - (nI 1)) 6 (fun jx => pm_go call ns d 69 n 108 [some (pm_r 20 0), some (pm_i v1), some (pm_i v2), some (pm_i v3), some (pm_i v4), some (pm_i v5), some (pm_i ((v2 / (nI 2)) - (nI 1)))] [pm_i (G 43 jx), pm_i ((nI 12) * ((v2 / (nI 2)) - (nI 1))), pm_r 42 0] (mm x R Z Y o A c G g)))) rfl ?_
    refine (g_ok (f := 43) (by decide) rfl).trans ?_
    refine (ix_ok (j := j1) e1 l1 (by decide)).trans ?_
    rfl
  refine pW_eq 3 (pc' := 112) (L' := [some (pm_r 20 0), some (pm_i v1), some (pm_i v2), some (pm_i v3), some (pm_i v4), some (pm_i v5), some (pm_i ((v2 / (nI 2)) - (nI 1)))]) (S' := []) (M' := (mm x R Z Y o A c (pm_v G 42 j2 v5) g)) (fun call n => ?_) ?_
  · refine Eq.trans (b := pm_g (mm x R Z Y o A c G g) 42 0 (pm_ix (((nI 12) * ((v2 / (nI 2)) - (nI 1))) + (G 43 j1)) 72 (fun jx => pm_go call ns d 69 n 112 [some (pm_r 20 0), some (pm_i v1), some (pm_i v2), some (pm_i v3), some (pm_i v4), some (pm_i v5), some (pm_i ((v2 / (nI 2)) - (nI 1)))] [] (pm_u (mA Z A G) 42 0 jx v5, mB Y o c g, R, pm_tot, x)))) rfl ?_
    refine (g_ok (f := 42) (by decide) rfl).trans ?_
    refine (ix_ok (j := j2) e2 l2 (by decide)).trans ?_
    exact (congrArg (fun z => pm_go call ns d 69 n 112 [some (pm_r 20 0), some (pm_i v1), some (pm_i v2), some (pm_i v3), some (pm_i v4), some (pm_i v5), some (pm_i ((v2 / (nI 2)) - (nI 1)))] [] (z, mB Y o c g, R, pm_tot, x)) (uG (by decide)))
  refine pW_eq 2 (pc' := 116) (L' := [some (pm_r 20 0), some (pm_i v1), some (pm_i v2), some (pm_i v3), some (pm_i v4), some (pm_i v5), some (pm_i ((v2 / (nI 2)) - (nI 1)))]) (S' := [pm_r 43 0]) (M' := (mm x R Z Y o A c (pm_v G 42 j2 v5) g)) (fun call n => ?_) ?_
  · refine Eq.trans (b := pm_g (mm x R Z Y o A c (pm_v G 42 j2 v5) g) 20 0 (pm_go call ns d 69 n 116 [some (pm_r 20 0), some (pm_i v1), some (pm_i v2), some (pm_i v3), some (pm_i v4), some (pm_i v5), some (pm_i ((v2 / (nI 2)) - (nI 1)))] [pm_a (R 20 0 24)] (mm x R Z Y o A c (pm_v G 42 j2 v5) g))) rfl ?_
    refine (g_ok (f := 20) (by decide) rfl).trans ?_
    exact (congrArg (fun z => pm_go call ns d 69 n 116 [some (pm_r 20 0), some (pm_i v1), some (pm_i v2), some (pm_i v3), some (pm_i v4), some (pm_i v5), some (pm_i ((v2 / (nI 2)) - (nI 1)))] [pm_a z] (mm x R Z Y o A c (pm_v G 42 j2 v5) g)) (rs_20_24 hR))
  refine pW_eq 3 (pc' := 120) (L' := [some (pm_r 20 0), some (pm_i v1), some (pm_i v2), some (pm_i v3), some (pm_i v4), some (pm_i v5), some (pm_i ((v2 / (nI 2)) - (nI 1)))]) (S' := [pm_i ((pm_v G 42 j2 v5) 43 j1), pm_i ((v2 / (nI 2)) - (nI 1)), pm_r 43 0]) (M' := (mm x R Z Y o A c (pm_v G 42 j2 v5) g)) (fun call n => ?_) ?_
  · refine Eq.trans (b := pm_g (mm x R Z Y o A c (pm_v G 42 j2 v5) g) 43 0 (pm_ix ((v2 / (nI 2)) - (nI 1)) 6 (fun jx => pm_go call ns d 69 n 120 [some (pm_r 20 0), some (pm_i v1), some (pm_i v2), some (pm_i v3), some (pm_i v4), some (pm_i v5), some (pm_i ((v2 / (nI 2)) - (nI 1)))] [pm_i ((pm_v G 42 j2 v5) 43 jx), pm_i ((v2 / (nI 2)) - (nI 1)), pm_r 43 0] (mm x R Z Y o A c (pm_v G 42 j2 v5) g)))) rfl ?_
    refine (g_ok (f := 43) (by decide) rfl).trans ?_
    refine (ix_ok (j := j1) e1 l1 (by decide)).trans ?_
    rfl
  refine pW_eq 3 (pc' := 123) (L' := [some (pm_r 20 0), some (pm_i v1), some (pm_i v2), some (pm_i v3), some (pm_i v4), some (pm_i v5), some (pm_i ((v2 / (nI 2)) - (nI 1)))]) (S' := []) (M' := (mm x R Z Y o A c (pm_v (pm_v G 42 j2 v5) 43 j1 (((pm_v G 42 j2 v5) 43 j1) + (nI 1))) g)) (fun call n => ?_) ?_
  · refine Eq.trans (b := pm_g (mm x R Z Y o A c (pm_v G 42 j2 v5) g) 43 0 (pm_ix ((v2 / (nI 2)) - (nI 1)) 6 (fun jx => pm_go call ns d 69 n 123 [some (pm_r 20 0), some (pm_i v1), some (pm_i v2), some (pm_i v3), some (pm_i v4), some (pm_i v5), some (pm_i ((v2 / (nI 2)) - (nI 1)))] [] (pm_u (mA Z A (pm_v G 42 j2 v5)) 43 0 jx (((pm_v G 42 j2 v5) 43 j1) + (nI 1)), mB Y o c g, R, pm_tot, x)))) rfl ?_
    refine (g_ok (f := 43) (by decide) rfl).trans ?_
    refine (ix_ok (j := j1) e1 l1 (by decide)).trans ?_
    exact (congrArg (fun z => pm_go call ns d 69 n 123 [some (pm_r 20 0), some (pm_i v1), some (pm_i v2), some (pm_i v3), some (pm_i v4), some (pm_i v5), some (pm_i ((v2 / (nI 2)) - (nI 1)))] [] (z, mB Y o c g, R, pm_tot, x)) (uG (by decide)))
  exact pW_eq 2 (fun call n => rfl) k
set_option maxRecDepth 20000 in
theorem t69_0 (hR : RS R) {v1 : Int32} {v2 : Int32} {u3 : Option pm_V} {u4 : Option pm_V} {u5 : Option pm_V} {u6 : Option pm_V} {j1 : Nat} (e1 : v1 = nI j1) (l1 : j1 < 8) (k1 : (v2 ≤ nI 1) → pW ns d 69 28 [some (pm_r 20 0), some (pm_i v1), some (pm_i v2), some (pm_i (G 36 j1)), some (pm_i (nI 0)), u5, u6] [] (mm x R Z Y o A c G g) Q) (k2 : (¬ (v2 ≤ nI 1)) → pW ns d 69 12 [some (pm_r 20 0), some (pm_i v1), some (pm_i v2), some (pm_i (G 36 j1)), u4, u5, u6] [] (mm x R Z Y o A c G g) Q) : pW ns d 69 0 [some (pm_r 20 0), some (pm_i v1), some (pm_i v2), u3, u4, u5, u6] [] (mm x R Z Y o A c G g) Q := by
  refine b69_0 hR e1 l1 (fun h1 => ?_) (fun h1 => ?_)
  · skip
    exact b69_25 hR   (k1 h1)
  · skip
    exact (k2 h1)
set_option maxRecDepth 20000 in
theorem t69_28 (hR : RS R) {v1 : Int32} {v2 : Int32} {v3 : Int32} {v4 : Int32} {u5 : Option pm_V} {u6 : Option pm_V}  (k1 : (v3 ≤ v4) → Q (.inl (some (pm_i v3)), (mm x R Z Y o A c G g))) (k2 : (¬ (v3 ≤ v4)) → pW ns d 69 34 [some (pm_r 20 0), some (pm_i v1), some (pm_i v2), some (pm_i v3), some (pm_i v4), u5, u6] [] (mm x R Z Y o A c G g) Q) : pW ns d 69 28 [some (pm_r 20 0), some (pm_i v1), some (pm_i v2), some (pm_i v3), some (pm_i v4), u5, u6] [] (mm x R Z Y o A c G g) Q := by
  refine b69_28 hR  (fun h1 => ?_) (fun h1 => ?_)
  · skip
    exact b69_129 hR   (k1 h1)
  · skip
    exact (k2 h1)
set_option maxRecDepth 20000 in
theorem t69_19 (hR : RS R) {v1 : Int32} {v2 : Int32} {v3 : Int32} {u4 : Option pm_V} {u5 : Option pm_V} {u6 : Option pm_V} {vs0 : Int32}  (k1 : (vs0 = 0) → Q (.inl (some (pm_i (-nI 6))), (mm x R Z Y o A c G g))) (k2 : (¬ (vs0 = 0)) → pW ns d 69 28 [some (pm_r 20 0), some (pm_i v1), some (pm_i v2), some (pm_i v3), some (pm_i (nI 0)), u5, u6] [] (mm x R Z Y o A c G g) Q) : pW ns d 69 19 [some (pm_r 20 0), some (pm_i v1), some (pm_i v2), some (pm_i v3), u4, u5, u6] [pm_i vs0] (mm x R Z Y o A c G g) Q := by
  refine b69_19 hR  (fun h1 => ?_) (fun h1 => ?_)
  · skip
    exact b69_22 hR   (k1 h1)
  · skip
    exact b69_25 hR   (k2 h1)
set_option maxRecDepth 20000 in
theorem t69_34 (hR : RS R) {v1 : Int32} {v2 : Int32} {v3 : Int32} {v4 : Int32} {u5 : Option pm_V} {u6 : Option pm_V} {j1 : Nat} (e1 : v1 = nI j1) (l1 : j1 < 8) (k1 : (v2 = nI 1) → pW ns d 69 58 [some (pm_r 20 0), some (pm_i v1), some (pm_i v2), some (pm_i v3), some (pm_i v4), some (pm_i ((((g j1) >>> (((nI 8) * v4).toInt64 &&& 63)).toInt32) &&& (nI 255))), u6] [] (mm x R Z Y o A c G g) Q) (k2 : (¬ (v2 = nI 1)) → pW ns d 69 85 [some (pm_r 20 0), some (pm_i v1), some (pm_i v2), some (pm_i v3), some (pm_i v4), some (pm_i ((((g j1) >>> (((nI 8) * v4).toInt64 &&& 63)).toInt32) &&& (nI 255))), u6] [] (mm x R Z Y o A c G g) Q) : pW ns d 69 34 [some (pm_r 20 0), some (pm_i v1), some (pm_i v2), some (pm_i v3), some (pm_i v4), u5, u6] [] (mm x R Z Y o A c G g) Q := by
  refine b69_34 hR e1 l1 (fun h1 => ?_) (fun h1 => ?_)
  · skip
    exact (k1 h1)
  · skip
    exact (k2 h1)
/-! 70 JobLayerModel.reaped -/
set_option maxRecDepth 20000 in
theorem b70_0 (hR : RS R) {v1 : Int32} {u2 : Option pm_V}  {x2 : Nat} {o2 : Int64} {A2 : Nat → Nat → Nat → Int32} {c2 : Nat → Int64} {G2 : Nat → Nat → Int32} {g2 : Nat → Int64} {y : Int32} (hE : pE ns d 65 [pm_r 20 0, pm_i v1, pm_i (nI 0)] (mm x R Z Y o A c G g) (.inl (some (pm_i y)), (mm x2 R Z Y o2 A2 c2 G2 g2))) (k : pW ns d 70 6 [some (pm_r 20 0), some (pm_i v1), u2] [pm_i y] (mm x2 R Z Y o2 A2 c2 G2 g2) Q) : pW ns d 70 0 [some (pm_r 20 0), some (pm_i v1), u2] [] (mm x R Z Y o A c G g) Q := by
  refine pW_call (pc' := 3) (r := []) (L' := [some (pm_r 20 0), some (pm_i v1), u2]) 4 (fun call n => ?_) hE k
  exact Eq.trans (b := pm_g (mm x R Z Y o A c G g) 20 0 (pm_cl call 70 (pm_go call ns d 70 n) 3 65 [pm_r 20 0, pm_i v1, pm_i (nI 0)] [] [some (pm_r 20 0), some (pm_i v1), u2] (mm x R Z Y o A c G g))) rfl (g_ok (f := 20) (by decide) rfl)
set_option maxRecDepth 20000 in
theorem b70_6 (hR : RS R) {v1 : Int32} {u2 : Option pm_V} {vs0 : Int32}   (k1 : 0 ≤ vs0 → pW ns d 70 12 [some (pm_r 20 0), some (pm_i v1), u2] [] (mm x R Z Y o A c G g) Q) (k2 : ¬ (0 ≤ vs0) → pW ns d 70 9 [some (pm_r 20 0), some (pm_i v1), u2] [] (mm x R Z Y o A c G g) Q) : pW ns d 70 6 [some (pm_r 20 0), some (pm_i v1), u2] [pm_i vs0] (mm x R Z Y o A c G g) Q := by
  exact pW_if 1 (c := 0 ≤ vs0) (fun call n => rfl) k1 k2
set_option maxRecDepth 20000 in
theorem b70_12 (hR : RS R) {v1 : Int32} {u2 : Option pm_V}  {x2 : Nat} {o2 : Int64} {A2 : Nat → Nat → Nat → Int32} {c2 : Nat → Int64} {G2 : Nat → Nat → Int32} {g2 : Nat → Int64} {y : Int32} (hE : pE ns d 65 [pm_r 20 0, pm_i v1, pm_i (nI 4)] (mm x R Z Y o A c G g) (.inl (some (pm_i y)), (mm x2 R Z Y o2 A2 c2 G2 g2))) (k : pW ns d 70 18 [some (pm_r 20 0), some (pm_i v1), u2] [pm_i y] (mm x2 R Z Y o2 A2 c2 G2 g2) Q) : pW ns d 70 12 [some (pm_r 20 0), some (pm_i v1), u2] [] (mm x R Z Y o A c G g) Q := by
  refine pW_call (pc' := 15) (r := []) (L' := [some (pm_r 20 0), some (pm_i v1), u2]) 4 (fun call n => ?_) hE k
  exact Eq.trans (b := pm_g (mm x R Z Y o A c G g) 20 0 (pm_cl call 70 (pm_go call ns d 70 n) 15 65 [pm_r 20 0, pm_i v1, pm_i (nI 4)] [] [some (pm_r 20 0), some (pm_i v1), u2] (mm x R Z Y o A c G g))) rfl (g_ok (f := 20) (by decide) rfl)
set_option maxRecDepth 20000 in
theorem b70_9 (hR : RS R) {u0 : Option pm_V} {u1 : Option pm_V} {u2 : Option pm_V}   (k : Q (.inl (some (pm_i (-nI 3))), (mm x R Z Y o A c G g))) : pW ns d 70 9 [u0, u1, u2] [] (mm x R Z Y o A c G g) Q := by
  refine pW_ret 2 (fun call n => ?_) k
  rfl
set_option maxRecDepth 20000 in
theorem b70_18 (hR : RS R) {v1 : Int32} {u2 : Option pm_V} {vs0 : Int32}   (k1 : vs0 ≤ 0 → pW ns d 70 42 [some (pm_r 20 0), some (pm_i v1), some (pm_i vs0)] [] (mm x R Z Y o A c G g) Q) (k2 : ¬ (vs0 ≤ 0) → pW ns d 70 23 [some (pm_r 20 0), some (pm_i v1), some (pm_i vs0)] [] (mm x R Z Y o A c G g) Q) : pW ns d 70 18 [some (pm_r 20 0), some (pm_i v1), u2] [pm_i vs0] (mm x R Z Y o A c G g) Q := by
  exact pW_if 3 (c := vs0 ≤ 0) (fun call n => rfl) k1 k2
set_option maxRecDepth 20000 in
theorem b70_42 (hR : RS R) {v1 : Int32} {u2 : Option pm_V}  {x2 : Nat} {o2 : Int64} {A2 : Nat → Nat → Nat → Int32} {c2 : Nat → Int64} {G2 : Nat → Nat → Int32} {g2 : Nat → Int64} {y : Int32} (hE : pE ns d 65 [pm_r 20 0, pm_i v1, pm_i (nI 3)] (mm x R Z Y o A c G g) (.inl (some (pm_i y)), (mm x2 R Z Y o2 A2 c2 G2 g2))) (k : pW ns d 70 48 [some (pm_r 20 0), some (pm_i v1), u2] [pm_i y] (mm x2 R Z Y o2 A2 c2 G2 g2) Q) : pW ns d 70 42 [some (pm_r 20 0), some (pm_i v1), u2] [] (mm x R Z Y o A c G g) Q := by
  refine pW_call (pc' := 45) (r := []) (L' := [some (pm_r 20 0), some (pm_i v1), u2]) 4 (fun call n => ?_) hE k
  exact Eq.trans (b := pm_g (mm x R Z Y o A c G g) 20 0 (pm_cl call 70 (pm_go call ns d 70 n) 45 65 [pm_r 20 0, pm_i v1, pm_i (nI 3)] [] [some (pm_r 20 0), some (pm_i v1), u2] (mm x R Z Y o A c G g))) rfl (g_ok (f := 20) (by decide) rfl)
set_option maxRecDepth 20000 in
theorem b70_23 (hR : RS R) {u1 : Option pm_V} {v2 : Int32} {j1 : Nat} (e1 : v2 = nI j1) (l1 : j1 < 8)  (k : Q (.inl (some (pm_i (v2 + ((nI 8) * ((pm_v G 21 j1 (nI 0)) 29 j1))))), (mm x R Z Y o A c (pm_v G 21 j1 (nI 0)) g))) : pW ns d 70 23 [some (pm_r 20 0), u1, some (pm_i v2)] [] (mm x R Z Y o A c G g) Q := by
  refine pW_eq 2 (pc' := 27) (L' := [some (pm_r 20 0), u1, some (pm_i v2)]) (S' := [pm_r 21 0]) (M' := (mm x R Z Y o A c G g)) (fun call n => ?_) ?_
  · refine Eq.trans (b := pm_g (mm x R Z Y o A c G g) 20 0 (pm_go call ns d 70 n 27 [some (pm_r 20 0), u1, some (pm_i v2)] [pm_a (R 20 0 1)] (mm x R Z Y o A c G g))) rfl ?_
    refine (g_ok (f := 20) (by decide) rfl).trans ?_
    exact (congrArg (fun z => pm_go call ns d 70 n 27 [some (pm_r 20 0), u1, some (pm_i v2)] [pm_a z] (mm x R Z Y o A c G g)) (rs_20_1 hR))
  refine pW_eq 3 (pc' := 30) (L' := [some (pm_r 20 0), u1, some (pm_i v2)]) (S' := []) (M' := (mm x R Z Y o A c (pm_v G 21 j1 (nI 0)) g)) (fun call n => ?_) ?_
  · refine Eq.trans (b := pm_g (mm x R Z Y o A c G g) 21 0 (pm_ix (v2) 8 (fun jx => pm_go call ns d 70 n 30 [some (pm_r 20 0), u1, some (pm_i v2)] [] (pm_u (mA Z A G) 21 0 jx (nI 0), mB Y o c g, R, pm_tot, x)))) rfl ?_
    refine (g_ok (f := 21) (by decide) rfl).trans ?_
    refine (ix_ok (j := j1) e1 l1 (by decide)).trans ?_
    exact (congrArg (fun z => pm_go call ns d 70 n 30 [some (pm_r 20 0), u1, some (pm_i v2)] [] (z, mB Y o c g, R, pm_tot, x)) (uG (by decide)))
  refine pW_eq 4 (pc' := 37) (L' := [some (pm_r 20 0), u1, some (pm_i v2)]) (S' := [pm_r 29 0, pm_i (nI 8), pm_i v2]) (M' := (mm x R Z Y o A c (pm_v G 21 j1 (nI 0)) g)) (fun call n => ?_) ?_
  · refine Eq.trans (b := pm_g (mm x R Z Y o A c (pm_v G 21 j1 (nI 0)) g) 20 0 (pm_go call ns d 70 n 37 [some (pm_r 20 0), u1, some (pm_i v2)] [pm_a (R 20 0 9), pm_i (nI 8), pm_i v2] (mm x R Z Y o A c (pm_v G 21 j1 (nI 0)) g))) rfl ?_
    refine (g_ok (f := 20) (by decide) rfl).trans ?_
    exact (congrArg (fun z => pm_go call ns d 70 n 37 [some (pm_r 20 0), u1, some (pm_i v2)] [pm_a z, pm_i (nI 8), pm_i v2] (mm x R Z Y o A c (pm_v G 21 j1 (nI 0)) g)) (rs_20_9 hR))
  refine pW_eq 2 (pc' := 39) (L' := [some (pm_r 20 0), u1, some (pm_i v2)]) (S' := [pm_i ((pm_v G 21 j1 (nI 0)) 29 j1), pm_i (nI 8), pm_i v2]) (M' := (mm x R Z Y o A c (pm_v G 21 j1 (nI 0)) g)) (fun call n => ?_) ?_
  · refine Eq.trans (b := pm_g (mm x R Z Y o A c (pm_v G 21 j1 (nI 0)) g) 29 0 (pm_ix (v2) 8 (fun jx => pm_go call ns d 70 n 39 [some (pm_r 20 0), u1, some (pm_i v2)] [pm_i ((pm_v G 21 j1 (nI 0)) 29 jx), pm_i (nI 8), pm_i v2] (mm x R Z Y o A c (pm_v G 21 j1 (nI 0)) g)))) rfl ?_
    refine (g_ok (f := 29) (by decide) rfl).trans ?_
    refine (ix_ok (j := j1) e1 l1 (by decide)).trans ?_
    rfl
  refine pW_ret 3 (fun call n => ?_) k
  rfl
set_option maxRecDepth 20000 in
theorem b70_48 (hR : RS R) {v1 : Int32} {u2 : Option pm_V} {vs0 : Int32} {j1 : Nat} (e1 : vs0 = nI j1) (l1 : j1 < 8)  (k : Q (.inl (some (pm_i (vs0 + (nI 1024)))), (mm x R Z Y o A c (pm_v G 31 j1 (nI 1)) g))) : pW ns d 70 48 [some (pm_r 20 0), some (pm_i v1), u2] [pm_i vs0] (mm x R Z Y o A c G g) Q := by
  refine pW_eq 3 (pc' := 53) (L' := [some (pm_r 20 0), some (pm_i v1), some (pm_i vs0)]) (S' := [pm_r 31 0]) (M' := (mm x R Z Y o A c G g)) (fun call n => ?_) ?_
  · refine Eq.trans (b := pm_g (mm x R Z Y o A c G g) 20 0 (pm_go call ns d 70 n 53 [some (pm_r 20 0), some (pm_i v1), some (pm_i vs0)] [pm_a (R 20 0 11)] (mm x R Z Y o A c G g))) rfl ?_
    refine (g_ok (f := 20) (by decide) rfl).trans ?_
    exact (congrArg (fun z => pm_go call ns d 70 n 53 [some (pm_r 20 0), some (pm_i v1), some (pm_i vs0)] [pm_a z] (mm x R Z Y o A c G g)) (rs_20_11 hR))
  refine pW_eq 3 (pc' := 56) (L' := [some (pm_r 20 0), some (pm_i v1), some (pm_i vs0)]) (S' := []) (M' := (mm x R Z Y o A c (pm_v G 31 j1 (nI 1)) g)) (fun call n => ?_) ?_
  · refine Eq.trans (b := pm_g (mm x R Z Y o A c G g) 31 0 (pm_ix (vs0) 8 (fun jx => pm_bo (nI 1) (pm_go call ns d 70 n 56 [some (pm_r 20 0), some (pm_i v1), some (pm_i vs0)] [] (pm_u (mA Z A G) 31 0 jx (nI 1), mB Y o c g, R, pm_tot, x))))) rfl ?_
    refine (g_ok (f := 31) (by decide) rfl).trans ?_
    refine (ix_ok (j := j1) e1 l1 (by decide)).trans ?_
    refine (bo_ok (by decide)).trans ?_
    exact (congrArg (fun z => pm_go call ns d 70 n 56 [some (pm_r 20 0), some (pm_i v1), some (pm_i vs0)] [] (z, mB Y o c g, R, pm_tot, x)) (uG (by decide)))
  refine pW_ret 4 (fun call n => ?_) k
  rfl
set_option maxRecDepth 20000 in
theorem t70_6 (hR : RS R) {v1 : Int32} {u2 : Option pm_V} {vs0 : Int32}  (k1 : (0 ≤ vs0) → pW ns d 70 12 [some (pm_r 20 0), some (pm_i v1), u2] [] (mm x R Z Y o A c G g) Q) (k2 : (¬ (0 ≤ vs0)) → Q (.inl (some (pm_i (-nI 3))), (mm x R Z Y o A c G g))) : pW ns d 70 6 [some (pm_r 20 0), some (pm_i v1), u2] [pm_i vs0] (mm x R Z Y o A c G g) Q := by
  refine b70_6 hR  (fun h1 => ?_) (fun h1 => ?_)
  · skip
    exact (k1 h1)
  · skip
    exact b70_9 hR   (k2 h1)
set_option maxRecDepth 20000 in
theorem t70_18 (hR : RS R) {v1 : Int32} {u2 : Option pm_V} {vs0 : Int32}  (k1 : (vs0 ≤ 0) → pW ns d 70 42 [some (pm_r 20 0), some (pm_i v1), some (pm_i vs0)] [] (mm x R Z Y o A c G g) Q) (k2 : (¬ (vs0 ≤ 0)) → pW ns d 70 23 [some (pm_r 20 0), some (pm_i v1), some (pm_i vs0)] [] (mm x R Z Y o A c G g) Q) : pW ns d 70 18 [some (pm_r 20 0), some (pm_i v1), u2] [pm_i vs0] (mm x R Z Y o A c G g) Q := by
  refine b70_18 hR  (fun h1 => ?_) (fun h1 => ?_)
  · skip
    exact (k1 h1)
  · skip
    exact (k2 h1)
/-! 71 JobLayerModel.perform -/
set_option maxRecDepth 20000 in
theorem b71_0 (hR : RS R) {v1 : Int32} {u2 : Option pm_V} {j1 : Nat} (e1 : v1 = nI j1) (l1 : j1 < 8)  (k1 : nI 3 ≤ G 34 j1 → pW ns d 71 29 [some (pm_r 20 0), some (pm_i v1), u2] [] (mm x R Z Y o A c G g) Q) (k2 : ¬ (nI 3 ≤ G 34 j1) → pW ns d 71 10 [some (pm_r 20 0), some (pm_i v1), u2] [] (mm x R Z Y o A c G g) Q) : pW ns d 71 0 [some (pm_r 20 0), some (pm_i v1), u2] [] (mm x R Z Y o A c G g) Q := by
  refine pW_eq 2 (pc' := 4) (L' := [some (pm_r 20 0), some (pm_i v1), u2]) (S' := [pm_r 34 0]) (M' := (mm x R Z Y o A c G g)) (fun call n => ?_) ?_
  · refine Eq.trans (b := pm_g (mm x R Z Y o A c G g) 20 0 (pm_go call ns d 71 n 4 [some (pm_r 20 0), some (pm_i v1), u2] [pm_a (R 20 0 14)] (mm x R Z Y o A c G g))) rfl ?_
    refine (g_ok (f := 20) (by decide) rfl).trans ?_
    exact (congrArg (fun z => pm_go call ns d 71 n 4 [some (pm_r 20 0), some (pm_i v1), u2] [pm_a z] (mm x R Z Y o A c G g)) (rs_20_14 hR))
  refine pW_eq 2 (pc' := 6) (L' := [some (pm_r 20 0), some (pm_i v1), u2]) (S' := [pm_i (G 34 j1)]) (M' := (mm x R Z Y o A c G g)) (fun call n => ?_) ?_
  · refine Eq.trans (b := pm_g (mm x R Z Y o A c G g) 34 0 (pm_ix (v1) 8 (fun jx => pm_go call ns d 71 n 6 [some (pm_r 20 0), some (pm_i v1), u2] [pm_i (G 34 jx)] (mm x R Z Y o A c G g)))) rfl ?_
    refine (g_ok (f := 34) (by decide) rfl).trans ?_
    refine (ix_ok (j := j1) e1 l1 (by decide)).trans ?_
    rfl
  exact pW_if 2 (c := nI 3 ≤ G 34 j1) (fun call n => rfl) k1 k2
set_option maxRecDepth 20000 in
theorem b71_29 (hR : RS R) {v1 : Int32} {u2 : Option pm_V} {j1 : Nat} (e1 : v1 = nI j1) (l1 : j1 < 8)  (k1 : G 34 j1 = nI 3 → pW ns d 71 41 [some (pm_r 20 0), some (pm_i v1), some (pm_i (nI 0))] [] (mm x R Z Y o A c G g) Q) (k2 : ¬ (G 34 j1 = nI 3) → pW ns d 71 47 [some (pm_r 20 0), some (pm_i v1), some (pm_i (nI 0))] [] (mm x R Z Y o A c G g) Q) : pW ns d 71 29 [some (pm_r 20 0), some (pm_i v1), u2] [] (mm x R Z Y o A c G g) Q := by
  refine pW_eq 4 (pc' := 35) (L' := [some (pm_r 20 0), some (pm_i v1), some (pm_i (nI 0))]) (S' := [pm_r 34 0]) (M' := (mm x R Z Y o A c G g)) (fun call n => ?_) ?_
  · refine Eq.trans (b := pm_g (mm x R Z Y o A c G g) 20 0 (pm_go call ns d 71 n 35 [some (pm_r 20 0), some (pm_i v1), some (pm_i (nI 0))] [pm_a (R 20 0 14)] (mm x R Z Y o A c G g))) rfl ?_
    refine (g_ok (f := 20) (by decide) rfl).trans ?_
    exact (congrArg (fun z => pm_go call ns d 71 n 35 [some (pm_r 20 0), some (pm_i v1), some (pm_i (nI 0))] [pm_a z] (mm x R Z Y o A c G g)) (rs_20_14 hR))
  refine pW_eq 2 (pc' := 37) (L' := [some (pm_r 20 0), some (pm_i v1), some (pm_i (nI 0))]) (S' := [pm_i (G 34 j1)]) (M' := (mm x R Z Y o A c G g)) (fun call n => ?_) ?_
  · refine Eq.trans (b := pm_g (mm x R Z Y o A c G g) 34 0 (pm_ix (v1) 8 (fun jx => pm_go call ns d 71 n 37 [some (pm_r 20 0), some (pm_i v1), some (pm_i (nI 0))] [pm_i (G 34 jx)] (mm x R Z Y o A c G g)))) rfl ?_
    refine (g_ok (f := 34) (by decide) rfl).trans ?_
    refine (ix_ok (j := j1) e1 l1 (by decide)).trans ?_
    rfl
  exact pW_if 2 (c := G 34 j1 = nI 3) (fun call n => rfl) k1 k2
set_option maxRecDepth 20000 in
theorem b71_10 (hR : RS R) {v1 : Int32} {u2 : Option pm_V} {j1 : Nat} {j2 : Nat} (e1 : v1 = nI j1) (l1 : j1 < 8) (e2 : ((nI 6) * v1) + (G 35 j1) = nI j2) (l2 : j2 < 48)  (k1 : G 34 j1 = nI 3 → pW ns d 71 41 [some (pm_r 20 0), some (pm_i v1), some (pm_i (G 32 j2))] [] (mm x R Z Y o A c G g) Q) (k2 : ¬ (G 34 j1 = nI 3) → pW ns d 71 47 [some (pm_r 20 0), some (pm_i v1), some (pm_i (G 32 j2))] [] (mm x R Z Y o A c G g) Q) : pW ns d 71 10 [some (pm_r 20 0), some (pm_i v1), u2] [] (mm x R Z Y o A c G g) Q := by
  refine pW_eq 2 (pc' := 14) (L' := [some (pm_r 20 0), some (pm_i v1), u2]) (S' := [pm_r 32 0]) (M' := (mm x R Z Y o A c G g)) (fun call n => ?_) ?_
  · refine Eq.trans (b := pm_g (mm x R Z Y o A c G g) 20 0 (pm_go call ns d 71 n 14 [some (pm_r 20 0), some (pm_i v1), u2] [pm_a (R 20 0 12)] (mm x R Z Y o A c G g))) rfl ?_
    refine (g_ok (f := 20) (by decide) rfl).trans ?_
    exact (congrArg (fun z => pm_go call ns d 71 n 14 [some (pm_r 20 0), some (pm_i v1), u2] [pm_a z] (mm x R Z Y o A c G g)) (rs_20_12 hR))
  refine pW_eq 5 (pc' := 22) (L' := [some (pm_r 20 0), some (pm_i v1), u2]) (S' := [pm_r 35 0, pm_i ((nI 6) * v1), pm_r 32 0]) (M' := (mm x R Z Y o A c G g)) (fun call n => ?_) ?_
  · refine Eq.trans (b := pm_g (mm x R Z Y o A c G g) 20 0 (pm_go call ns d 71 n 22 [some (pm_r 20 0), some (pm_i v1), u2] [pm_a (R 20 0 15), pm_i ((nI 6) * v1), pm_r 32 0] (mm x R Z Y o A c G g))) rfl ?_
    refine (g_ok (f := 20) (by decide) rfl).trans ?_
    exact (congrArg (fun z => pm_go call ns d 71 n 22 [some (pm_r 20 0), some (pm_i v1), u2] [pm_a z, pm_i ((nI 6) * v1), pm_r 32 0] (mm x R Z Y o A c G g)) (rs_20_15 hR))
  refine pW_eq 2 (pc' := 24) (L' := [some (pm_r 20 0), some (pm_i v1), u2]) (S' := [pm_i (G 35 j1), pm_i ((nI 6) * v1), pm_r 32 0]) (M' := (mm x R Z Y o A c G g)) (fun call n => ?_) ?_
  · refine Eq.trans (b := pm_g (mm x R Z Y o A c G g) 35 0 (pm_ix (v1) 8 (fun jx => pm_go call ns d 71 n 24 [some (pm_r 20 0), some (pm_i v1), u2] [pm_i (G 35 jx), pm_i ((nI 6) * v1), pm_r 32 0] (mm x R Z Y o A c G g)))) rfl ?_
    refine (g_ok (f := 35) (by decide) rfl).trans ?_
    refine (ix_ok (j := j1) e1 l1 (by decide)).trans ?_
    rfl
  refine pW_eq 2 (pc' := 26) (L' := [some (pm_r 20 0), some (pm_i v1), u2]) (S' := [pm_i (G 32 j2)]) (M' := (mm x R Z Y o A c G g)) (fun call n => ?_) ?_
  · refine Eq.trans (b := pm_g (mm x R Z Y o A c G g) 32 0 (pm_ix (((nI 6) * v1) + (G 35 j1)) 48 (fun jx => pm_go call ns d 71 n 26 [some (pm_r 20 0), some (pm_i v1), u2] [pm_i (G 32 jx)] (mm x R Z Y o A c G g)))) rfl ?_
    refine (g_ok (f := 32) (by decide) rfl).trans ?_
    refine (ix_ok (j := j2) e2 l2 (by decide)).trans ?_
    rfl
  refine pW_eq 4 (pc' := 35) (L' := [some (pm_r 20 0), some (pm_i v1), some (pm_i (G 32 j2))]) (S' := [pm_r 34 0]) (M' := (mm x R Z Y o A c G g)) (fun call n => ?_) ?_
  · refine Eq.trans (b := pm_g (mm x R Z Y o A c G g) 20 0 (pm_go call ns d 71 n 35 [some (pm_r 20 0), some (pm_i v1), some (pm_i (G 32 j2))] [pm_a (R 20 0 14)] (mm x R Z Y o A c G g))) rfl ?_
    refine (g_ok (f := 20) (by decide) rfl).trans ?_
    exact (congrArg (fun z => pm_go call ns d 71 n 35 [some (pm_r 20 0), some (pm_i v1), some (pm_i (G 32 j2))] [pm_a z] (mm x R Z Y o A c G g)) (rs_20_14 hR))
  refine pW_eq 2 (pc' := 37) (L' := [some (pm_r 20 0), some (pm_i v1), some (pm_i (G 32 j2))]) (S' := [pm_i (G 34 j1)]) (M' := (mm x R Z Y o A c G g)) (fun call n => ?_) ?_
  · refine Eq.trans (b := pm_g (mm x R Z Y o A c G g) 34 0 (pm_ix (v1) 8 (fun jx => pm_go call ns d 71 n 37 [some (pm_r 20 0), some (pm_i v1), some (pm_i (G 32 j2))] [pm_i (G 34 jx)] (mm x R Z Y o A c G g)))) rfl ?_
    refine (g_ok (f := 34) (by decide) rfl).trans ?_
    refine (ix_ok (j := j1) e1 l1 (by decide)).trans ?_
    rfl
  exact pW_if 2 (c := G 34 j1 = nI 3) (fun call n => rfl) k1 k2
set_option maxRecDepth 20000 in
theorem b71_41 (hR : RS R) {v1 : Int32} {u2 : Option pm_V}  {x2 : Nat} {o2 : Int64} {A2 : Nat → Nat → Nat → Int32} {c2 : Nat → Int64} {G2 : Nat → Nat → Int32} {g2 : Nat → Int64} {y : Int32} (hE : pE ns d 70 [pm_r 20 0, pm_i v1] (mm x R Z Y o A c G g) (.inl (some (pm_i y)), (mm x2 R Z Y o2 A2 c2 G2 g2))) (k : pW ns d 71 46 [some (pm_r 20 0), some (pm_i v1), u2] [pm_i y] (mm x2 R Z Y o2 A2 c2 G2 g2) Q) : pW ns d 71 41 [some (pm_r 20 0), some (pm_i v1), u2] [] (mm x R Z Y o A c G g) Q := by
  refine pW_call (pc' := 43) (r := []) (L' := [some (pm_r 20 0), some (pm_i v1), u2]) 3 (fun call n => ?_) hE k
  exact Eq.trans (b := pm_g (mm x R Z Y o A c G g) 20 0 (pm_cl call 71 (pm_go call ns d 71 n) 43 70 [pm_r 20 0, pm_i v1] [] [some (pm_r 20 0), some (pm_i v1), u2] (mm x R Z Y o A c G g))) rfl (g_ok (f := 20) (by decide) rfl)
set_option maxRecDepth 20000 in
theorem b71_47 (hR : RS R) {v1 : Int32} {v2 : Int32} {j1 : Nat} (e1 : v1 = nI j1) (l1 : j1 < 8)  (k1 : G 34 j1 = nI 2 → pW ns d 71 57 [some (pm_r 20 0), some (pm_i v1), some (pm_i v2)] [] (mm x R Z Y o A c G g) Q) (k2 : ¬ (G 34 j1 = nI 2) → pW ns d 71 64 [some (pm_r 20 0), some (pm_i v1), some (pm_i v2)] [] (mm x R Z Y o A c G g) Q) : pW ns d 71 47 [some (pm_r 20 0), some (pm_i v1), some (pm_i v2)] [] (mm x R Z Y o A c G g) Q := by
  refine pW_eq 2 (pc' := 51) (L' := [some (pm_r 20 0), some (pm_i v1), some (pm_i v2)]) (S' := [pm_r 34 0]) (M' := (mm x R Z Y o A c G g)) (fun call n => ?_) ?_
  · refine Eq.trans (b := pm_g (mm x R Z Y o A c G g) 20 0 (pm_go call ns d 71 n 51 [some (pm_r 20 0), some (pm_i v1), some (pm_i v2)] [pm_a (R 20 0 14)] (mm x R Z Y o A c G g))) rfl ?_
    refine (g_ok (f := 20) (by decide) rfl).trans ?_
    exact (congrArg (fun z => pm_go call ns d 71 n 51 [some (pm_r 20 0), some (pm_i v1), some (pm_i v2)] [pm_a z] (mm x R Z Y o A c G g)) (rs_20_14 hR))
  refine pW_eq 2 (pc' := 53) (L' := [some (pm_r 20 0), some (pm_i v1), some (pm_i v2)]) (S' := [pm_i (G 34 j1)]) (M' := (mm x R Z Y o A c G g)) (fun call n => ?_) ?_
  · refine Eq.trans (b := pm_g (mm x R Z Y o A c G g) 34 0 (pm_ix (v1) 8 (fun jx => pm_go call ns d 71 n 53 [some (pm_r 20 0), some (pm_i v1), some (pm_i v2)] [pm_i (G 34 jx)] (mm x R Z Y o A c G g)))) rfl ?_
    refine (g_ok (f := 34) (by decide) rfl).trans ?_
    refine (ix_ok (j := j1) e1 l1 (by decide)).trans ?_
    rfl
  exact pW_if 2 (c := G 34 j1 = nI 2) (fun call n => rfl) k1 k2
set_option maxRecDepth 20000 in
theorem b71_46 (hR : RS R) {u0 : Option pm_V} {u1 : Option pm_V} {u2 : Option pm_V} {vs0 : Int32}   (k : Q (.inl (some (pm_i vs0)), (mm x R Z Y o A c G g))) : pW ns d 71 46 [u0, u1, u2] [pm_i vs0] (mm x R Z Y o A c G g) Q := by
  refine pW_ret 1 (fun call n => ?_) k
  rfl
set_option maxRecDepth 20000 in
theorem b71_57 (hR : RS R) {v1 : Int32} {v2 : Int32}  {x2 : Nat} {o2 : Int64} {A2 : Nat → Nat → Nat → Int32} {c2 : Nat → Int64} {G2 : Nat → Nat → Int32} {g2 : Nat → Int64} {y : Int32} (hE : pE ns d 69 [pm_r 20 0, pm_i v1, pm_i v2] (mm x R Z Y o A c G g) (.inl (some (pm_i y)), (mm x2 R Z Y o2 A2 c2 G2 g2))) (k : pW ns d 71 63 [some (pm_r 20 0), some (pm_i v1), some (pm_i v2)] [pm_i y] (mm x2 R Z Y o2 A2 c2 G2 g2) Q) : pW ns d 71 57 [some (pm_r 20 0), some (pm_i v1), some (pm_i v2)] [] (mm x R Z Y o A c G g) Q := by
  refine pW_call (pc' := 60) (r := []) (L' := [some (pm_r 20 0), some (pm_i v1), some (pm_i v2)]) 4 (fun call n => ?_) hE k
  exact Eq.trans (b := pm_g (mm x R Z Y o A c G g) 20 0 (pm_cl call 71 (pm_go call ns d 71 n) 60 69 [pm_r 20 0, pm_i v1, pm_i v2] [] [some (pm_r 20 0), some (pm_i v1), some (pm_i v2)] (mm x R Z Y o A c G g))) rfl (g_ok (f := 20) (by decide) rfl)
set_option maxRecDepth 20000 in
theorem b71_64 (hR : RS R) {v1 : Int32} {v2 : Int32}   (k1 : v2 ≤ nI 1 → pW ns d 71 80 [some (pm_r 20 0), some (pm_i v1), some (pm_i v2)] [] (mm x R Z Y o A c G g) Q) (k2 : ¬ (v2 ≤ nI 1) → pW ns d 71 69 [some (pm_r 20 0), some (pm_i v1), some (pm_i v2)] [] (mm x R Z Y o A c G g) Q) : pW ns d 71 64 [some (pm_r 20 0), some (pm_i v1), some (pm_i v2)] [] (mm x R Z Y o A c G g) Q := by
  exact pW_if 3 (c := v2 ≤ nI 1) (fun call n => rfl) k1 k2
set_option maxRecDepth 20000 in
theorem b71_63 (hR : RS R) {u0 : Option pm_V} {u1 : Option pm_V} {u2 : Option pm_V} {vs0 : Int32}   (k : Q (.inl (some (pm_i vs0)), (mm x R Z Y o A c G g))) : pW ns d 71 63 [u0, u1, u2] [pm_i vs0] (mm x R Z Y o A c G g) Q := by
  refine pW_ret 1 (fun call n => ?_) k
  rfl
set_option maxRecDepth 20000 in
theorem b71_80 (hR : RS R) {v1 : Int32} {u2 : Option pm_V} {j1 : Nat} (e1 : v1 = nI j1) (l1 : j1 < 8)  (k1 : G 23 j1 = G 20 25 → pW ns d 71 93 [some (pm_r 20 0), some (pm_i v1), u2] [] (mm x R Z Y o A c G g) Q) (k2 : ¬ (G 23 j1 = G 20 25) → pW ns d 71 101 [some (pm_r 20 0), some (pm_i v1), u2] [] (mm x R Z Y o A c G g) Q) : pW ns d 71 80 [some (pm_r 20 0), some (pm_i v1), u2] [] (mm x R Z Y o A c G g) Q := by
  refine pW_eq 2 (pc' := 84) (L' := [some (pm_r 20 0), some (pm_i v1), u2]) (S' := [pm_r 23 0]) (M' := (mm x R Z Y o A c G g)) (fun call n => ?_) ?_
  · refine Eq.trans (b := pm_g (mm x R Z Y o A c G g) 20 0 (pm_go call ns d 71 n 84 [some (pm_r 20 0), some (pm_i v1), u2] [pm_a (R 20 0 3)] (mm x R Z Y o A c G g))) rfl ?_
    refine (g_ok (f := 20) (by decide) rfl).trans ?_
    exact (congrArg (fun z => pm_go call ns d 71 n 84 [some (pm_r 20 0), some (pm_i v1), u2] [pm_a z] (mm x R Z Y o A c G g)) (rs_20_3 hR))
  refine pW_eq 2 (pc' := 86) (L' := [some (pm_r 20 0), some (pm_i v1), u2]) (S' := [pm_i (G 23 j1)]) (M' := (mm x R Z Y o A c G g)) (fun call n => ?_) ?_
  · refine Eq.trans (b := pm_g (mm x R Z Y o A c G g) 23 0 (pm_ix (v1) 8 (fun jx => pm_go call ns d 71 n 86 [some (pm_r 20 0), some (pm_i v1), u2] [pm_i (G 23 jx)] (mm x R Z Y o A c G g)))) rfl ?_
    refine (g_ok (f := 23) (by decide) rfl).trans ?_
    refine (ix_ok (j := j1) e1 l1 (by decide)).trans ?_
    rfl
  refine pW_eq 2 (pc' := 90) (L' := [some (pm_r 20 0), some (pm_i v1), u2]) (S' := [pm_i (G 20 25), pm_i (G 23 j1)]) (M' := (mm x R Z Y o A c G g)) (fun call n => ?_) ?_
  · refine Eq.trans (b := pm_g (mm x R Z Y o A c G g) 20 0 (pm_go call ns d 71 n 90 [some (pm_r 20 0), some (pm_i v1), u2] [pm_i (G 20 25), pm_i (G 23 j1)] (mm x R Z Y o A c G g))) rfl ?_
    refine (g_ok (f := 20) (by decide) rfl).trans ?_
    rfl
  exact pW_if 1 (c := G 23 j1 = G 20 25) (fun call n => rfl) k1 k2
set_option maxRecDepth 20000 in
theorem b71_69 (hR : RS R) {v1 : Int32} {v2 : Int32}  {x2 : Nat} {o2 : Int64} {A2 : Nat → Nat → Nat → Int32} {c2 : Nat → Int64} {G2 : Nat → Nat → Int32} {g2 : Nat → Int64} {y : Int32} (hE : pE ns d 68 [pm_r 20 0, pm_i v1, pm_i ((v2 / (nI 2)) - (nI 1))] (mm x R Z Y o A c G g) (.inl (some (pm_i y)), (mm x2 R Z Y o2 A2 c2 G2 g2))) (k : pW ns d 71 79 [some (pm_r 20 0), some (pm_i v1), some (pm_i v2)] [pm_i y] (mm x2 R Z Y o2 A2 c2 G2 g2) Q) : pW ns d 71 69 [some (pm_r 20 0), some (pm_i v1), some (pm_i v2)] [] (mm x R Z Y o A c G g) Q := by
  refine pW_eq 5 (pc' := 74) (L' := [some (pm_r 20 0), some (pm_i v1), some (pm_i v2)]) (S' := [pm_i (v2 / (nI 2)), pm_i v1, pm_r 20 0]) (M' := (mm x R Z Y o A c G g)) (fun call n => ?_) ?_
  · refine Eq.trans (b := if (nI 2) = 0 then none else pm_go call ns d 71 n 74 [some (pm_r 20 0), some (pm_i v1), some (pm_i v2)] [pm_i (v2 / (nI 2)), pm_i v1, pm_r 20 0] (mm x R Z Y o A c G g)) rfl ?_
    refine (if_neg (by decide)).trans ?_
    rfl
  refine pW_call (pc' := 76) (r := []) (L' := [some (pm_r 20 0), some (pm_i v1), some (pm_i v2)]) 3 (fun call n => ?_) hE k
  exact Eq.trans (b := pm_g (mm x R Z Y o A c G g) 20 0 (pm_cl call 71 (pm_go call ns d 71 n) 76 68 [pm_r 20 0, pm_i v1, pm_i ((v2 / (nI 2)) - (nI 1))] [] [some (pm_r 20 0), some (pm_i v1), some (pm_i v2)] (mm x R Z Y o A c G g))) rfl (g_ok (f := 20) (by decide) rfl)
set_option maxRecDepth 20000 in
theorem b71_93 (hR : RS R) {v1 : Int32} {u2 : Option pm_V}  {x2 : Nat} {o2 : Int64} {A2 : Nat → Nat → Nat → Int32} {c2 : Nat → Int64} {G2 : Nat → Nat → Int32} {g2 : Nat → Int64} {y : Int32} (hE : pE ns d 67 [pm_r 20 0, pm_i v1] (mm x R Z Y o A c G g) (.inl (some (pm_i y)), (mm x2 R Z Y o2 A2 c2 G2 g2))) (k : pW ns d 71 98 [some (pm_r 20 0), some (pm_i v1), u2] [pm_i y] (mm x2 R Z Y o2 A2 c2 G2 g2) Q) : pW ns d 71 93 [some (pm_r 20 0), some (pm_i v1), u2] [] (mm x R Z Y o A c G g) Q := by
  refine pW_call (pc' := 95) (r := []) (L' := [some (pm_r 20 0), some (pm_i v1), u2]) 3 (fun call n => ?_) hE k
  exact Eq.trans (b := pm_g (mm x R Z Y o A c G g) 20 0 (pm_cl call 71 (pm_go call ns d 71 n) 95 67 [pm_r 20 0, pm_i v1] [] [some (pm_r 20 0), some (pm_i v1), u2] (mm x R Z Y o A c G g))) rfl (g_ok (f := 20) (by decide) rfl)
set_option maxRecDepth 20000 in
theorem b71_101 (hR : RS R) {u0 : Option pm_V} {u1 : Option pm_V} {u2 : Option pm_V}   (k : Q (.inl (some (pm_i (-nI 5))), (mm x R Z Y o A c G g))) : pW ns d 71 101 [u0, u1, u2] [] (mm x R Z Y o A c G g) Q := by
  refine pW_ret 2 (fun call n => ?_) k
  rfl
set_option maxRecDepth 20000 in
theorem b71_79 (hR : RS R) {u0 : Option pm_V} {u1 : Option pm_V} {u2 : Option pm_V} {vs0 : Int32}   (k : Q (.inl (some (pm_i vs0)), (mm x R Z Y o A c G g))) : pW ns d 71 79 [u0, u1, u2] [pm_i vs0] (mm x R Z Y o A c G g) Q := by
  refine pW_ret 1 (fun call n => ?_) k
  rfl
set_option maxRecDepth 20000 in
theorem b71_98 (hR : RS R) {u0 : Option pm_V} {u1 : Option pm_V} {u2 : Option pm_V} {vs0 : Int32}   (k : Q (.inl (some (pm_i vs0)), (mm x R Z Y o A c G g))) : pW ns d 71 98 [u0, u1, u2] [pm_i vs0] (mm x R Z Y o A c G g) Q := by
  refine pW_ret 2 (fun call n => ?_) k
  rfl
set_option maxRecDepth 20000 in
theorem t71_0 (hR : RS R) {v1 : Int32} {u2 : Option pm_V} {j1 : Nat} (e1 : v1 = nI j1) (l1 : j1 < 8) (k1 : (nI 3 ≤ G 34 j1) → (G 34 j1 = nI 3) → pW ns d 71 41 [some (pm_r 20 0), some (pm_i v1), some (pm_i (nI 0))] [] (mm x R Z Y o A c G g) Q) (k2 : (nI 3 ≤ G 34 j1) → (¬ (G 34 j1 = nI 3)) → (G 34 j1 = nI 2) → pW ns d 71 57 [some (pm_r 20 0), some (pm_i v1), some (pm_i (nI 0))] [] (mm x R Z Y o A c G g) Q) (k3 : (nI 3 ≤ G 34 j1) → (¬ (G 34 j1 = nI 3)) → (¬ (G 34 j1 = nI 2)) → (G 23 j1 = G 20 25) → pW ns d 71 93 [some (pm_r 20 0), some (pm_i v1), some (pm_i (nI 0))] [] (mm x R Z Y o A c G g) Q) (k4 : (nI 3 ≤ G 34 j1) → (¬ (G 34 j1 = nI 3)) → (¬ (G 34 j1 = nI 2)) → (¬ (G 23 j1 = G 20 25)) → Q (.inl (some (pm_i (-nI 5))), (mm x R Z Y o A c G g))) (k5 : (¬ (nI 3 ≤ G 34 j1)) → pW ns d 71 10 [some (pm_r 20 0), some (pm_i v1), u2] [] (mm x R Z Y o A c G g) Q) : pW ns d 71 0 [some (pm_r 20 0), some (pm_i v1), u2] [] (mm x R Z Y o A c G g) Q := by
  refine b71_0 hR e1 l1 (fun h1 => ?_) (fun h1 => ?_)
  · skip
    refine b71_29 hR  e1 l1 (fun h2 => ?_) (fun h2 => ?_)
    · skip
      exact (k1 h1 h2)
    · skip
      refine b71_47 hR  e1 l1 (fun h3 => ?_) (fun h3 => ?_)
      · skip
        exact (k2 h1 h2 h3)
      · skip
        refine b71_64 hR   (fun h4 => ?_) (fun h4 => ?_)
        · skip
          refine b71_80 hR  e1 l1 (fun h5 => ?_) (fun h5 => ?_)
          · skip
            exact (k3 h1 h2 h3 h5)
          · skip
            exact b71_101 hR   (k4 h1 h2 h3 h5)
        · exact absurd h4 (by decide)
  · skip
    exact (k5 h1)
set_option maxRecDepth 20000 in
theorem t71_29 (hR : RS R) {v1 : Int32} {u2 : Option pm_V} {j1 : Nat} (e1 : v1 = nI j1) (l1 : j1 < 8) (k1 : (G 34 j1 = nI 3) → pW ns d 71 41 [some (pm_r 20 0), some (pm_i v1), some (pm_i (nI 0))] [] (mm x R Z Y o A c G g) Q) (k2 : (¬ (G 34 j1 = nI 3)) → (G 34 j1 = nI 2) → pW ns d 71 57 [some (pm_r 20 0), some (pm_i v1), some (pm_i (nI 0))] [] (mm x R Z Y o A c G g) Q) (k3 : (¬ (G 34 j1 = nI 3)) → (¬ (G 34 j1 = nI 2)) → (G 23 j1 = G 20 25) → pW ns d 71 93 [some (pm_r 20 0), some (pm_i v1), some (pm_i (nI 0))] [] (mm x R Z Y o A c G g) Q) (k4 : (¬ (G 34 j1 = nI 3)) → (¬ (G 34 j1 = nI 2)) → (¬ (G 23 j1 = G 20 25)) → Q (.inl (some (pm_i (-nI 5))), (mm x R Z Y o A c G g))) : pW ns d 71 29 [some (pm_r 20 0), some (pm_i v1), u2] [] (mm x R Z Y o A c G g) Q := by
  refine b71_29 hR e1 l1 (fun h1 => ?_) (fun h1 => ?_)
  · skip
    exact (k1 h1)
  · skip
    refine b71_47 hR  e1 l1 (fun h2 => ?_) (fun h2 => ?_)
    · skip
      exact (k2 h1 h2)
    · skip
      refine b71_64 hR   (fun h3 => ?_) (fun h3 => ?_)
      · skip
        refine b71_80 hR  e1 l1 (fun h4 => ?_) (fun h4 => ?_)
        · skip
          exact (k3 h1 h2 h4)
        · skip
          exact b71_101 hR   (k4 h1 h2 h4)
      · exact absurd h3 (by decide)
set_option maxRecDepth 20000 in
theorem t71_10 (hR : RS R) {v1 : Int32} {u2 : Option pm_V} {j1 : Nat} {j2 : Nat} (e1 : v1 = nI j1) (l1 : j1 < 8) (e2 : ((nI 6) * v1) + (G 35 j1) = nI j2) (l2 : j2 < 48) (k1 : (G 34 j1 = nI 3) → pW ns d 71 41 [some (pm_r 20 0), some (pm_i v1), some (pm_i (G 32 j2))] [] (mm x R Z Y o A c G g) Q) (k2 : (¬ (G 34 j1 = nI 3)) → (G 34 j1 = nI 2) → pW ns d 71 57 [some (pm_r 20 0), some (pm_i v1), some (pm_i (G 32 j2))] [] (mm x R Z Y o A c G g) Q) (k3 : (¬ (G 34 j1 = nI 3)) → (¬ (G 34 j1 = nI 2)) → (G 32 j2 ≤ nI 1) → (G 23 j1 = G 20 25) → pW ns d 71 93 [some (pm_r 20 0), some (pm_i v1), some (pm_i (G 32 j2))] [] (mm x R Z Y o A c G g) Q) (k4 : (¬ (G 34 j1 = nI 3)) → (¬ (G 34 j1 = nI 2)) → (G 32 j2 ≤ nI 1) → (¬ (G 23 j1 = G 20 25)) → Q (.inl (some (pm_i (-nI 5))), (mm x R Z Y o A c G g))) (k5 : (¬ (G 34 j1 = nI 3)) → (¬ (G 34 j1 = nI 2)) → (¬ (G 32 j2 ≤ nI 1)) → pW ns d 71 69 [some (pm_r 20 0), some (pm_i v1), some (pm_i (G 32 j2))] [] (mm x R Z Y o A c G g) Q) : pW ns d 71 10 [some (pm_r 20 0), some (pm_i v1), u2] [] (mm x R Z Y o A c G g) Q := by
  refine b71_10 hR e1 l1 e2 l2 (fun h1 => ?_) (fun h1 => ?_)
  · skip
    exact (k1 h1)
  · skip
    refine b71_47 hR  e1 l1 (fun h2 => ?_) (fun h2 => ?_)
    · skip
      exact (k2 h1 h2)
    · skip
      refine b71_64 hR   (fun h3 => ?_) (fun h3 => ?_)
      · skip
        refine b71_80 hR  e1 l1 (fun h4 => ?_) (fun h4 => ?_)
        · skip
          exact (k3 h1 h2 h3 h4)
        · skip
          exact b71_101 hR   (k4 h1 h2 h3 h4)
      · skip
        exact (k5 h1 h2 h3)
set_option maxRecDepth 20000 in
theorem t71_47 (hR : RS R) {v1 : Int32} {v2 : Int32} {j1 : Nat} (e1 : v1 = nI j1) (l1 : j1 < 8) (k1 : (G 34 j1 = nI 2) → pW ns d 71 57 [some (pm_r 20 0), some (pm_i v1), some (pm_i v2)] [] (mm x R Z Y o A c G g) Q) (k2 : (¬ (G 34 j1 = nI 2)) → (v2 ≤ nI 1) → (G 23 j1 = G 20 25) → pW ns d 71 93 [some (pm_r 20 0), some (pm_i v1), some (pm_i v2)] [] (mm x R Z Y o A c G g) Q) (k3 : (¬ (G 34 j1 = nI 2)) → (v2 ≤ nI 1) → (¬ (G 23 j1 = G 20 25)) → Q (.inl (some (pm_i (-nI 5))), (mm x R Z Y o A c G g))) (k4 : (¬ (G 34 j1 = nI 2)) → (¬ (v2 ≤ nI 1)) → pW ns d 71 69 [some (pm_r 20 0), some (pm_i v1), some (pm_i v2)] [] (mm x R Z Y o A c G g) Q) : pW ns d 71 47 [some (pm_r 20 0), some (pm_i v1), some (pm_i v2)] [] (mm x R Z Y o A c G g) Q := by
  refine b71_47 hR e1 l1 (fun h1 => ?_) (fun h1 => ?_)
  · skip
    exact (k1 h1)
  · skip
    refine b71_64 hR   (fun h2 => ?_) (fun h2 => ?_)
    · skip
      refine b71_80 hR  e1 l1 (fun h3 => ?_) (fun h3 => ?_)
      · skip
        exact (k2 h1 h2 h3)
      · skip
        exact b71_101 hR   (k3 h1 h2 h3)
    · skip
      exact (k4 h1 h2)
set_option maxRecDepth 20000 in
theorem t71_64 (hR : RS R) {v1 : Int32} {v2 : Int32}  (k1 : (v2 ≤ nI 1) → pW ns d 71 80 [some (pm_r 20 0), some (pm_i v1), some (pm_i v2)] [] (mm x R Z Y o A c G g) Q) (k2 : (¬ (v2 ≤ nI 1)) → pW ns d 71 69 [some (pm_r 20 0), some (pm_i v1), some (pm_i v2)] [] (mm x R Z Y o A c G g) Q) : pW ns d 71 64 [some (pm_r 20 0), some (pm_i v1), some (pm_i v2)] [] (mm x R Z Y o A c G g) Q := by
  refine b71_64 hR  (fun h1 => ?_) (fun h1 => ?_)
  · skip
    exact (k1 h1)
  · skip
    exact (k2 h1)
set_option maxRecDepth 20000 in
theorem t71_80 (hR : RS R) {v1 : Int32} {u2 : Option pm_V} {j1 : Nat} (e1 : v1 = nI j1) (l1 : j1 < 8) (k1 : (G 23 j1 = G 20 25) → pW ns d 71 93 [some (pm_r 20 0), some (pm_i v1), u2] [] (mm x R Z Y o A c G g) Q) (k2 : (¬ (G 23 j1 = G 20 25)) → Q (.inl (some (pm_i (-nI 5))), (mm x R Z Y o A c G g))) : pW ns d 71 80 [some (pm_r 20 0), some (pm_i v1), u2] [] (mm x R Z Y o A c G g) Q := by
  refine b71_80 hR e1 l1 (fun h1 => ?_) (fun h1 => ?_)
  · skip
    exact (k1 h1)
  · skip
    exact b71_101 hR   (k2 h1)
/-! 72 JobLayerModel.settle -/
set_option maxRecDepth 20000 in
theorem b72_0 (hR : RS R) {u1 : Option pm_V} {u2 : Option pm_V} {u3 : Option pm_V} {u4 : Option pm_V}   (k : pW ns d 72 2 [some (pm_r 20 0), some (pm_i (nI 1)), u2, u3, u4] [] (mm x R Z Y o A c G g) Q) : pW ns d 72 0 [some (pm_r 20 0), u1, u2, u3, u4] [] (mm x R Z Y o A c G g) Q := by
  exact pW_eq 2 (fun call n => rfl) k
set_option maxRecDepth 20000 in
theorem b72_2 (hR : RS R) {v1 : Int32} {u2 : Option pm_V} {u3 : Option pm_V} {u4 : Option pm_V}   (k1 : v1 = 0 → pW ns d 72 124 [some (pm_r 20 0), some (pm_i v1), u2, u3, u4] [] (mm x R Z Y o A c G g) Q) (k2 : ¬ (v1 = 0) → pW ns d 72 6 [some (pm_r 20 0), some (pm_i v1), u2, u3, u4] [] (mm x R Z Y o A c G g) Q) : pW ns d 72 2 [some (pm_r 20 0), some (pm_i v1), u2, u3, u4] [] (mm x R Z Y o A c G g) Q := by
  exact pW_if 2 (c := v1 = 0) (fun call n => rfl) k1 k2
set_option maxRecDepth 20000 in
theorem b72_124 (hR : RS R) {u0 : Option pm_V} {u1 : Option pm_V} {u2 : Option pm_V} {u3 : Option pm_V} {u4 : Option pm_V}   (k : Q (.inl none, (mm x R Z Y o A c G g))) : pW ns d 72 124 [u0, u1, u2, u3, u4] [] (mm x R Z Y o A c G g) Q := by
  refine pW_ret 1 (fun call n => ?_) k
  rfl
set_option maxRecDepth 20000 in
theorem b72_6 (hR : RS R) {v1 : Int32} {u2 : Option pm_V} {u3 : Option pm_V} {u4 : Option pm_V}   (k : pW ns d 72 10 [some (pm_r 20 0), some (pm_i v1), some (pm_i (-nI 1)), some (pm_i (nI 0)), u4] [] (mm x R Z Y o A c G g) Q) : pW ns d 72 6 [some (pm_r 20 0), some (pm_i v1), u2, u3, u4] [] (mm x R Z Y o A c G g) Q := by
  exact pW_eq 4 (fun call n => rfl) k
set_option maxRecDepth 20000 in
theorem b72_10 (hR : RS R) {v1 : Int32} {v2 : Int32} {v3 : Int32} {u4 : Option pm_V}   (k1 : nI 8 ≤ v3 → pW ns d 72 73 [some (pm_r 20 0), some (pm_i v1), some (pm_i v2), some (pm_i v3), u4] [] (mm x R Z Y o A c G g) Q) (k2 : ¬ (nI 8 ≤ v3) → pW ns d 72 16 [some (pm_r 20 0), some (pm_i v1), some (pm_i v2), some (pm_i v3), u4] [] (mm x R Z Y o A c G g) Q) : pW ns d 72 10 [some (pm_r 20 0), some (pm_i v1), some (pm_i v2), some (pm_i v3), u4] [] (mm x R Z Y o A c G g) Q := by
  exact pW_if 3 (c := nI 8 ≤ v3) (fun call n => rfl) k1 k2
set_option maxRecDepth 20000 in
theorem b72_73 (hR : RS R) {u1 : Option pm_V} {v2 : Int32} {u3 : Option pm_V} {u4 : Option pm_V}   (k1 : v2 < 0 → pW ns d 72 81 [some (pm_r 20 0), u1, some (pm_i v2), u3, u4] [] (mm x R Z Y o A c G g) Q) (k2 : ¬ (v2 < 0) → pW ns d 72 77 [some (pm_r 20 0), u1, some (pm_i v2), u3, u4] [] (mm x R Z Y o A c G g) Q) : pW ns d 72 73 [some (pm_r 20 0), u1, some (pm_i v2), u3, u4] [] (mm x R Z Y o A c G g) Q := by
  exact pW_if 2 (c := v2 < 0) (fun call n => rfl) k1 k2
set_option maxRecDepth 20000 in
theorem b72_16 (hR : RS R) {v1 : Int32} {v2 : Int32} {v3 : Int32} {u4 : Option pm_V} {j1 : Nat} (e1 : v3 = nI j1) (l1 : j1 < 8)  (k1 : G 21 j1 = nI 2 → pW ns d 72 26 [some (pm_r 20 0), some (pm_i v1), some (pm_i v2), some (pm_i v3), u4] [] (mm x R Z Y o A c G g) Q) (k2 : ¬ (G 21 j1 = nI 2) → pW ns d 72 38 [some (pm_r 20 0), some (pm_i v1), some (pm_i v2), some (pm_i v3), u4] [] (mm x R Z Y o A c G g) Q) : pW ns d 72 16 [some (pm_r 20 0), some (pm_i v1), some (pm_i v2), some (pm_i v3), u4] [] (mm x R Z Y o A c G g) Q := by
  refine pW_eq 2 (pc' := 20) (L' := [some (pm_r 20 0), some (pm_i v1), some (pm_i v2), some (pm_i v3), u4]) (S' := [pm_r 21 0]) (M' := (mm x R Z Y o A c G g)) (fun call n => ?_) ?_
  · refine Eq.trans (b := pm_g (mm x R Z Y o A c G g) 20 0 (pm_go call ns d 72 n 20 [some (pm_r 20 0), some (pm_i v1), some (pm_i v2), some (pm_i v3), u4] [pm_a (R 20 0 1)] (mm x R Z Y o A c G g))) rfl ?_
    refine (g_ok (f := 20) (by decide) rfl).trans ?_
    exact (congrArg (fun z => pm_go call ns d 72 n 20 [some (pm_r 20 0), some (pm_i v1), some (pm_i v2), some (pm_i v3), u4] [pm_a z] (mm x R Z Y o A c G g)) (rs_20_1 hR))
  refine pW_eq 2 (pc' := 22) (L' := [some (pm_r 20 0), some (pm_i v1), some (pm_i v2), some (pm_i v3), u4]) (S' := [pm_i (G 21 j1)]) (M' := (mm x R Z Y o A c G g)) (fun call n => ?_) ?_
  · refine Eq.trans (b := pm_g (mm x R Z Y o A c G g) 21 0 (pm_ix (v3) 8 (fun jx => pm_go call ns d 72 n 22 [some (pm_r 20 0), some (pm_i v1), some (pm_i v2), some (pm_i v3), u4] [pm_i (G 21 jx)] (mm x R Z Y o A c G g)))) rfl ?_
    refine (g_ok (f := 21) (by decide) rfl).trans ?_
    refine (ix_ok (j := j1) e1 l1 (by decide)).trans ?_
    rfl
  exact pW_if 2 (c := G 21 j1 = nI 2) (fun call n => rfl) k1 k2
set_option maxRecDepth 20000 in
theorem b72_81 (hR : RS R) {u1 : Option pm_V} {v2 : Int32} {u3 : Option pm_V} {u4 : Option pm_V}   (k1 : nI 0 = 0 → pW ns d 72 110 [some (pm_r 20 0), some (pm_i (nI 0)), some (pm_i v2), u3, u4] [] (mm x R Z Y o A c G g) Q) (k2 : ¬ (nI 0 = 0) → pW ns d 72 87 [some (pm_r 20 0), some (pm_i (nI 0)), some (pm_i v2), u3, u4] [] (mm x R Z Y o A c G g) Q) : pW ns d 72 81 [some (pm_r 20 0), u1, some (pm_i v2), u3, u4] [] (mm x R Z Y o A c G g) Q := by
  exact pW_if 4 (c := nI 0 = 0) (fun call n => rfl) k1 k2
set_option maxRecDepth 20000 in
theorem b72_77 (hR : RS R) {u1 : Option pm_V} {v2 : Int32} {u3 : Option pm_V} {u4 : Option pm_V}   (k1 : nI 1 = 0 → pW ns d 72 110 [some (pm_r 20 0), some (pm_i (nI 1)), some (pm_i v2), u3, u4] [] (mm x R Z Y o A c G g) Q) (k2 : ¬ (nI 1 = 0) → pW ns d 72 87 [some (pm_r 20 0), some (pm_i (nI 1)), some (pm_i v2), u3, u4] [] (mm x R Z Y o A c G g) Q) : pW ns d 72 77 [some (pm_r 20 0), u1, some (pm_i v2), u3, u4] [] (mm x R Z Y o A c G g) Q := by
  exact pW_if 5 (c := nI 1 = 0) (fun call n => rfl) k1 k2
set_option maxRecDepth 20000 in
theorem b72_26 (hR : RS R) {v1 : Int32} {v2 : Int32} {v3 : Int32} {u4 : Option pm_V}  {x2 : Nat} {o2 : Int64} {A2 : Nat → Nat → Nat → Int32} {c2 : Nat → Int64} {G2 : Nat → Nat → Int32} {g2 : Nat → Int64} {y : Int32} (hE : pE ns d 66 [pm_r 20 0, pm_i v3] (mm x R Z Y o A c G g) (.inl (some (pm_i y)), (mm x2 R Z Y o2 A2 c2 G2 g2))) (k : pW ns d 72 31 [some (pm_r 20 0), some (pm_i v1), some (pm_i v2), some (pm_i v3), u4] [pm_i y] (mm x2 R Z Y o2 A2 c2 G2 g2) Q) : pW ns d 72 26 [some (pm_r 20 0), some (pm_i v1), some (pm_i v2), some (pm_i v3), u4] [] (mm x R Z Y o A c G g) Q := by
  refine pW_call (pc' := 28) (r := []) (L' := [some (pm_r 20 0), some (pm_i v1), some (pm_i v2), some (pm_i v3), u4]) 3 (fun call n => ?_) hE k
  exact Eq.trans (b := pm_g (mm x R Z Y o A c G g) 20 0 (pm_cl call 72 (pm_go call ns d 72 n) 28 66 [pm_r 20 0, pm_i v3] [] [some (pm_r 20 0), some (pm_i v1), some (pm_i v2), some (pm_i v3), u4] (mm x R Z Y o A c G g))) rfl (g_ok (f := 20) (by decide) rfl)
set_option maxRecDepth 20000 in
theorem b72_38 (hR : RS R) {v1 : Int32} {v2 : Int32} {v3 : Int32} {u4 : Option pm_V}   (k1 : nI 0 = 0 → pW ns d 72 67 [some (pm_r 20 0), some (pm_i v1), some (pm_i v2), some (pm_i v3), some (pm_i (nI 0))] [] (mm x R Z Y o A c G g) Q) (k2 : ¬ (nI 0 = 0) → pW ns d 72 46 [some (pm_r 20 0), some (pm_i v1), some (pm_i v2), some (pm_i v3), some (pm_i (nI 0))] [] (mm x R Z Y o A c G g) Q) : pW ns d 72 38 [some (pm_r 20 0), some (pm_i v1), some (pm_i v2), some (pm_i v3), u4] [] (mm x R Z Y o A c G g) Q := by
  exact pW_if 4 (c := nI 0 = 0) (fun call n => rfl) k1 k2
set_option maxRecDepth 20000 in
theorem b72_110 (hR : RS R) {v1 : Int32} {v2 : Int32} {u3 : Option pm_V} {u4 : Option pm_V}   (k1 : v1 = 0 → pW ns d 72 121 [some (pm_r 20 0), some (pm_i v1), some (pm_i v2), u3, u4] [] (mm x R Z Y o A c G g) Q) (k2 : ¬ (v1 = 0) → pW ns d 72 114 [some (pm_r 20 0), some (pm_i v1), some (pm_i v2), u3, u4] [] (mm x R Z Y o A c G g) Q) : pW ns d 72 110 [some (pm_r 20 0), some (pm_i v1), some (pm_i v2), u3, u4] [] (mm x R Z Y o A c G g) Q := by
  exact pW_if 2 (c := v1 = 0) (fun call n => rfl) k1 k2
set_option maxRecDepth 20000 in
theorem b72_87 (hR : RS R) {v1 : Int32} {v2 : Int32} {u3 : Option pm_V} {u4 : Option pm_V}  {x2 : Nat} {o2 : Int64} {A2 : Nat → Nat → Nat → Int32} {c2 : Nat → Int64} {G2 : Nat → Nat → Int32} {g2 : Nat → Int64} {y : Int32} (hE : pE ns d 66 [pm_r 20 0, pm_i v2] (mm x R Z Y o A c G g) (.inl (some (pm_i y)), (mm x2 R Z Y o2 A2 c2 G2 g2))) (k : pW ns d 72 92 [some (pm_r 20 0), some (pm_i v1), some (pm_i v2), u3, u4] [pm_i y] (mm x2 R Z Y o2 A2 c2 G2 g2) Q) : pW ns d 72 87 [some (pm_r 20 0), some (pm_i v1), some (pm_i v2), u3, u4] [] (mm x R Z Y o A c G g) Q := by
  refine pW_call (pc' := 89) (r := []) (L' := [some (pm_r 20 0), some (pm_i v1), some (pm_i v2), u3, u4]) 3 (fun call n => ?_) hE k
  exact Eq.trans (b := pm_g (mm x R Z Y o A c G g) 20 0 (pm_cl call 72 (pm_go call ns d 72 n) 89 66 [pm_r 20 0, pm_i v2] [] [some (pm_r 20 0), some (pm_i v1), some (pm_i v2), u3, u4] (mm x R Z Y o A c G g))) rfl (g_ok (f := 20) (by decide) rfl)
set_option maxRecDepth 20000 in
theorem b72_31 (hR : RS R) {v1 : Int32} {v2 : Int32} {v3 : Int32} {u4 : Option pm_V} {vs0 : Int32}   (k1 : vs0 ≤ 0 → pW ns d 72 38 [some (pm_r 20 0), some (pm_i v1), some (pm_i v2), some (pm_i v3), u4] [] (mm x R Z Y o A c G g) Q) (k2 : ¬ (vs0 ≤ 0) → pW ns d 72 34 [some (pm_r 20 0), some (pm_i v1), some (pm_i v2), some (pm_i v3), u4] [] (mm x R Z Y o A c G g) Q) : pW ns d 72 31 [some (pm_r 20 0), some (pm_i v1), some (pm_i v2), some (pm_i v3), u4] [pm_i vs0] (mm x R Z Y o A c G g) Q := by
  exact pW_if 1 (c := vs0 ≤ 0) (fun call n => rfl) k1 k2
set_option maxRecDepth 20000 in
theorem b72_67 (hR : RS R) {v1 : Int32} {v2 : Int32} {v3 : Int32} {u4 : Option pm_V}   (k : pW ns d 72 10 [some (pm_r 20 0), some (pm_i v1), some (pm_i v2), some (pm_i (v3 + (nI 1))), u4] [] (mm x R Z Y o A c G g) Q) : pW ns d 72 67 [some (pm_r 20 0), some (pm_i v1), some (pm_i v2), some (pm_i v3), u4] [] (mm x R Z Y o A c G g) Q := by
  exact pW_eq 2 (fun call n => rfl) k
set_option maxRecDepth 20000 in
theorem b72_46 (hR : RS R) {v1 : Int32} {v2 : Int32} {v3 : Int32} {u4 : Option pm_V}   (k1 : v2 < 0 → pW ns d 72 65 [some (pm_r 20 0), some (pm_i v1), some (pm_i v2), some (pm_i v3), u4] [] (mm x R Z Y o A c G g) Q) (k2 : ¬ (v2 < 0) → pW ns d 72 50 [some (pm_r 20 0), some (pm_i v1), some (pm_i v2), some (pm_i v3), u4] [] (mm x R Z Y o A c G g) Q) : pW ns d 72 46 [some (pm_r 20 0), some (pm_i v1), some (pm_i v2), some (pm_i v3), u4] [] (mm x R Z Y o A c G g) Q := by
  exact pW_if 2 (c := v2 < 0) (fun call n => rfl) k1 k2
set_option maxRecDepth 20000 in
theorem b72_121 (hR : RS R) {v1 : Int32} {u2 : Option pm_V} {u3 : Option pm_V} {u4 : Option pm_V}   (k : pW ns d 72 2 [some (pm_r 20 0), some (pm_i v1), u2, u3, u4] [] (mm x R Z Y o A c G g) Q) : pW ns d 72 121 [some (pm_r 20 0), some (pm_i v1), u2, u3, u4] [] (mm x R Z Y o A c G g) Q := by
  exact pW_eq 1 (fun call n => rfl) k
set_option maxRecDepth 20000 in
theorem b72_114 (hR : RS R) {v1 : Int32} {v2 : Int32} {u3 : Option pm_V} {u4 : Option pm_V}  {x2 : Nat} {o2 : Int64} {A2 : Nat → Nat → Nat → Int32} {c2 : Nat → Int64} {G2 : Nat → Nat → Int32} {g2 : Nat → Int64} {y : Int32} (hE : pE ns d 73 [pm_r 20 0, pm_i v2, pm_i (nI 1)] (mm x R Z Y o A c G g) (.inl (some (pm_i y)), (mm x2 R Z Y o2 A2 c2 G2 g2))) (k : pW ns d 72 120 [some (pm_r 20 0), some (pm_i v1), some (pm_i v2), u3, u4] [pm_i y] (mm x2 R Z Y o2 A2 c2 G2 g2) Q) : pW ns d 72 114 [some (pm_r 20 0), some (pm_i v1), some (pm_i v2), u3, u4] [] (mm x R Z Y o A c G g) Q := by
  refine pW_call (pc' := 117) (r := []) (L' := [some (pm_r 20 0), some (pm_i v1), some (pm_i v2), u3, u4]) 4 (fun call n => ?_) hE k
  exact Eq.trans (b := pm_g (mm x R Z Y o A c G g) 20 0 (pm_cl call 72 (pm_go call ns d 72 n) 117 73 [pm_r 20 0, pm_i v2, pm_i (nI 1)] [] [some (pm_r 20 0), some (pm_i v1), some (pm_i v2), u3, u4] (mm x R Z Y o A c G g))) rfl (g_ok (f := 20) (by decide) rfl)
set_option maxRecDepth 20000 in
theorem b72_92 (hR : RS R) {v1 : Int32} {v2 : Int32} {u3 : Option pm_V} {u4 : Option pm_V} {vs0 : Int32}   (k1 : vs0 = nI 2 → pW ns d 72 96 [some (pm_r 20 0), some (pm_i v1), some (pm_i v2), u3, u4] [] (mm x R Z Y o A c G g) Q) (k2 : ¬ (vs0 = nI 2) → pW ns d 72 110 [some (pm_r 20 0), some (pm_i v1), some (pm_i v2), u3, u4] [] (mm x R Z Y o A c G g) Q) : pW ns d 72 92 [some (pm_r 20 0), some (pm_i v1), some (pm_i v2), u3, u4] [pm_i vs0] (mm x R Z Y o A c G g) Q := by
  exact pW_if 2 (c := vs0 = nI 2) (fun call n => rfl) k1 k2
set_option maxRecDepth 20000 in
theorem b72_34 (hR : RS R) {v1 : Int32} {v2 : Int32} {v3 : Int32} {u4 : Option pm_V}   (k1 : nI 1 = 0 → pW ns d 72 67 [some (pm_r 20 0), some (pm_i v1), some (pm_i v2), some (pm_i v3), some (pm_i (nI 1))] [] (mm x R Z Y o A c G g) Q) (k2 : ¬ (nI 1 = 0) → pW ns d 72 46 [some (pm_r 20 0), some (pm_i v1), some (pm_i v2), some (pm_i v3), some (pm_i (nI 1))] [] (mm x R Z Y o A c G g) Q) : pW ns d 72 34 [some (pm_r 20 0), some (pm_i v1), some (pm_i v2), some (pm_i v3), u4] [] (mm x R Z Y o A c G g) Q := by
  exact pW_if 5 (c := nI 1 = 0) (fun call n => rfl) k1 k2
set_option maxRecDepth 20000 in
theorem b72_65 (hR : RS R) {v1 : Int32} {u2 : Option pm_V} {v3 : Int32} {u4 : Option pm_V}   (k : pW ns d 72 10 [some (pm_r 20 0), some (pm_i v1), some (pm_i v3), some (pm_i (v3 + (nI 1))), u4] [] (mm x R Z Y o A c G g) Q) : pW ns d 72 65 [some (pm_r 20 0), some (pm_i v1), u2, some (pm_i v3), u4] [] (mm x R Z Y o A c G g) Q := by
  exact pW_eq 4 (fun call n => rfl) k
set_option maxRecDepth 20000 in
theorem b72_50 (hR : RS R) {v1 : Int32} {v2 : Int32} {v3 : Int32} {u4 : Option pm_V} {j1 : Nat} {j2 : Nat} (e1 : v3 = nI j1) (l1 : j1 < 8) (e2 : v2 = nI j2) (l2 : j2 < 8)  (k1 : G 39 j2 ≤ G 39 j1 → pW ns d 72 67 [some (pm_r 20 0), some (pm_i v1), some (pm_i v2), some (pm_i v3), u4] [] (mm x R Z Y o A c G g) Q) (k2 : ¬ (G 39 j2 ≤ G 39 j1) → pW ns d 72 65 [some (pm_r 20 0), some (pm_i v1), some (pm_i v2), some (pm_i v3), u4] [] (mm x R Z Y o A c G g) Q) : pW ns d 72 50 [some (pm_r 20 0), some (pm_i v1), some (pm_i v2), some (pm_i v3), u4] [] (mm x R Z Y o A c G g) Q := by
  refine pW_eq 2 (pc' := 54) (L' := [some (pm_r 20 0), some (pm_i v1), some (pm_i v2), some (pm_i v3), u4]) (S' := [pm_r 39 0]) (M' := (mm x R Z Y o A c G g)) (fun call n => ?_) ?_
  · refine Eq.trans (b := pm_g (mm x R Z Y o A c G g) 20 0 (pm_go call ns d 72 n 54 [some (pm_r 20 0), some (pm_i v1), some (pm_i v2), some (pm_i v3), u4] [pm_a (R 20 0 19)] (mm x R Z Y o A c G g))) rfl ?_
    refine (g_ok (f := 20) (by decide) rfl).trans ?_
    exact (congrArg (fun z => pm_go call ns d 72 n 54 [some (pm_r 20 0), some (pm_i v1), some (pm_i v2), some (pm_i v3), u4] [pm_a z] (mm x R Z Y o A c G g)) (rs_20_19 hR))
  refine pW_eq 2 (pc' := 56) (L' := [some (pm_r 20 0), some (pm_i v1), some (pm_i v2), some (pm_i v3), u4]) (S' := [pm_i (G 39 j1)]) (M' := (mm x R Z Y o A c G g)) (fun call n => ?_) ?_
  · refine Eq.trans (b := pm_g (mm x R Z Y o A c G g) 39 0 (pm_ix (v3) 8 (fun jx => pm_go call ns d 72 n 56 [some (pm_r 20 0), some (pm_i v1), some (pm_i v2), some (pm_i v3), u4] [pm_i (G 39 jx)] (mm x R Z Y o A c G g)))) rfl ?_
    refine (g_ok (f := 39) (by decide) rfl).trans ?_
    refine (ix_ok (j := j1) e1 l1 (by decide)).trans ?_
    rfl
  refine pW_eq 2 (pc' := 60) (L' := [some (pm_r 20 0), some (pm_i v1), some (pm_i v2), some (pm_i v3), u4]) (S' := [pm_r 39 0, pm_i (G 39 j1)]) (M' := (mm x R Z Y o A c G g)) (fun call n => ?_) ?_
  · refine Eq.trans (b := pm_g (mm x R Z Y o A c G g) 20 0 (pm_go call ns d 72 n 60 [some (pm_r 20 0), some (pm_i v1), some (pm_i v2), some (pm_i v3), u4] [pm_a (R 20 0 19), pm_i (G 39 j1)] (mm x R Z Y o A c G g))) rfl ?_
    refine (g_ok (f := 20) (by decide) rfl).trans ?_
    exact (congrArg (fun z => pm_go call ns d 72 n 60 [some (pm_r 20 0), some (pm_i v1), some (pm_i v2), some (pm_i v3), u4] [pm_a z, pm_i (G 39 j1)] (mm x R Z Y o A c G g)) (rs_20_19 hR))
  refine pW_eq 2 (pc' := 62) (L' := [some (pm_r 20 0), some (pm_i v1), some (pm_i v2), some (pm_i v3), u4]) (S' := [pm_i (G 39 j2), pm_i (G 39 j1)]) (M' := (mm x R Z Y o A c G g)) (fun call n => ?_) ?_
  · refine Eq.trans (b := pm_g (mm x R Z Y o A c G g) 39 0 (pm_ix (v2) 8 (fun jx => pm_go call ns d 72 n 62 [some (pm_r 20 0), some (pm_i v1), some (pm_i v2), some (pm_i v3), u4] [pm_i (G 39 jx), pm_i (G 39 j1)] (mm x R Z Y o A c G g)))) rfl ?_
    refine (g_ok (f := 39) (by decide) rfl).trans ?_
    refine (ix_ok (j := j2) e2 l2 (by decide)).trans ?_
    rfl
  exact pW_if 1 (c := G 39 j2 ≤ G 39 j1) (fun call n => rfl) k1 k2
set_option maxRecDepth 20000 in
theorem b72_120 (hR : RS R) {v1 : Int32} {u2 : Option pm_V} {u3 : Option pm_V} {u4 : Option pm_V} {vs0 : Int32}   (k : pW ns d 72 2 [some (pm_r 20 0), some (pm_i v1), u2, u3, u4] [] (mm x R Z Y o A c G g) Q) : pW ns d 72 120 [some (pm_r 20 0), some (pm_i v1), u2, u3, u4] [pm_i vs0] (mm x R Z Y o A c G g) Q := by
  exact pW_eq 2 (fun call n => rfl) k
set_option maxRecDepth 20000 in
theorem b72_96 (hR : RS R) {v1 : Int32} {v2 : Int32} {u3 : Option pm_V} {u4 : Option pm_V} {j1 : Nat} (e1 : v2 = nI j1) (l1 : j1 < 8) {x2 : Nat} {o2 : Int64} {A2 : Nat → Nat → Nat → Int32} {c2 : Nat → Int64} {G2 : Nat → Nat → Int32} {g2 : Nat → Int64}  (hE : pE ns d 63 [pm_r 20 0, pm_i (G 23 j1), pm_i (nI 5)] (mm x R Z Y o A c G g) (.inl (none), (mm x2 R Z Y o2 A2 c2 G2 g2))) (k : pW ns d 72 107 [some (pm_r 20 0), some (pm_i v1), some (pm_i v2), u3, u4] [] (mm x2 R Z Y o2 A2 c2 G2 g2) Q) : pW ns d 72 96 [some (pm_r 20 0), some (pm_i v1), some (pm_i v2), u3, u4] [] (mm x R Z Y o A c G g) Q := by
  refine pW_eq 3 (pc' := 101) (L' := [some (pm_r 20 0), some (pm_i v1), some (pm_i v2), u3, u4]) (S' := [pm_r 23 0, pm_r 20 0]) (M' := (mm x R Z Y o A c G g)) (fun call n => ?_) ?_
  · refine Eq.trans (b := pm_g (mm x R Z Y o A c G g) 20 0 (pm_go call ns d 72 n 101 [some (pm_r 20 0), some (pm_i v1), some (pm_i v2), u3, u4] [pm_a (R 20 0 3), pm_r 20 0] (mm x R Z Y o A c G g))) rfl ?_
    refine (g_ok (f := 20) (by decide) rfl).trans ?_
    exact (congrArg (fun z => pm_go call ns d 72 n 101 [some (pm_r 20 0), some (pm_i v1), some (pm_i v2), u3, u4] [pm_a z, pm_r 20 0] (mm x R Z Y o A c G g)) (rs_20_3 hR))
  refine pW_eq 2 (pc' := 103) (L' := [some (pm_r 20 0), some (pm_i v1), some (pm_i v2), u3, u4]) (S' := [pm_i (G 23 j1), pm_r 20 0]) (M' := (mm x R Z Y o A c G g)) (fun call n => ?_) ?_
  · refine Eq.trans (b := pm_g (mm x R Z Y o A c G g) 23 0 (pm_ix (v2) 8 (fun jx => pm_go call ns d 72 n 103 [some (pm_r 20 0), some (pm_i v1), some (pm_i v2), u3, u4] [pm_i (G 23 jx), pm_r 20 0] (mm x R Z Y o A c G g)))) rfl ?_
    refine (g_ok (f := 23) (by decide) rfl).trans ?_
    refine (ix_ok (j := j1) e1 l1 (by decide)).trans ?_
    rfl
  refine pW_call (pc' := 104) (r := []) (L' := [some (pm_r 20 0), some (pm_i v1), some (pm_i v2), u3, u4]) 2 (fun call n => ?_) hE k
  exact Eq.trans (b := pm_g (mm x R Z Y o A c G g) 20 0 (pm_cl call 72 (pm_go call ns d 72 n) 104 63 [pm_r 20 0, pm_i (G 23 j1), pm_i (nI 5)] [] [some (pm_r 20 0), some (pm_i v1), some (pm_i v2), u3, u4] (mm x R Z Y o A c G g))) rfl (g_ok (f := 20) (by decide) rfl)
set_option maxRecDepth 20000 in
theorem b72_107 (hR : RS R) {v1 : Int32} {u2 : Option pm_V} {u3 : Option pm_V} {u4 : Option pm_V}   (k : pW ns d 72 2 [some (pm_r 20 0), some (pm_i v1), u2, u3, u4] [] (mm x R Z Y o A c G g) Q) : pW ns d 72 107 [some (pm_r 20 0), some (pm_i v1), u2, u3, u4] [] (mm x R Z Y o A c G g) Q := by
  exact pW_eq 2 (fun call n => rfl) k
set_option maxRecDepth 20000 in
theorem t72_2 (hR : RS R) {v1 : Int32} {u2 : Option pm_V} {u3 : Option pm_V} {u4 : Option pm_V}  (k1 : (v1 = 0) → Q (.inl none, (mm x R Z Y o A c G g))) (k2 : (¬ (v1 = 0)) → pW ns d 72 10 [some (pm_r 20 0), some (pm_i v1), some (pm_i (-nI 1)), some (pm_i (nI 0)), u4] [] (mm x R Z Y o A c G g) Q) : pW ns d 72 2 [some (pm_r 20 0), some (pm_i v1), u2, u3, u4] [] (mm x R Z Y o A c G g) Q := by
  refine b72_2 hR  (fun h1 => ?_) (fun h1 => ?_)
  · skip
    exact b72_124 hR   (k1 h1)
  · skip
    exact b72_6 hR   (k2 h1)
set_option maxRecDepth 20000 in
theorem t72_10 (hR : RS R) {v1 : Int32} {v2 : Int32} {v3 : Int32} {u4 : Option pm_V}  (k1 : (nI 8 ≤ v3) → (v2 < 0) → pW ns d 72 2 [some (pm_r 20 0), some (pm_i (nI 0)), some (pm_i v2), some (pm_i v3), u4] [] (mm x R Z Y o A c G g) Q) (k2 : (nI 8 ≤ v3) → (¬ (v2 < 0)) → pW ns d 72 87 [some (pm_r 20 0), some (pm_i (nI 1)), some (pm_i v2), some (pm_i v3), u4] [] (mm x R Z Y o A c G g) Q) (k3 : (¬ (nI 8 ≤ v3)) → pW ns d 72 16 [some (pm_r 20 0), some (pm_i v1), some (pm_i v2), some (pm_i v3), u4] [] (mm x R Z Y o A c G g) Q) : pW ns d 72 10 [some (pm_r 20 0), some (pm_i v1), some (pm_i v2), some (pm_i v3), u4] [] (mm x R Z Y o A c G g) Q := by
  refine b72_10 hR  (fun h1 => ?_) (fun h1 => ?_)
  · skip
    refine b72_73 hR   (fun h2 => ?_) (fun h2 => ?_)
    · skip
      refine b72_81 hR   (fun h3 => ?_) (fun h3 => ?_)
      · skip
        refine b72_110 hR   (fun h4 => ?_) (fun h4 => ?_)
        · skip
          exact b72_121 hR   (k1 h1 h2)
        · exact absurd h4 (by decide)
      · exact absurd h3 (by decide)
    · skip
      refine b72_77 hR   (fun h3 => ?_) (fun h3 => ?_)
      · exact absurd h3 (by decide)
      · skip
        exact (k2 h1 h2)
  · skip
    exact (k3 h1)
set_option maxRecDepth 20000 in
theorem t72_73 (hR : RS R) {u1 : Option pm_V} {v2 : Int32} {u3 : Option pm_V} {u4 : Option pm_V}  (k1 : (v2 < 0) → pW ns d 72 2 [some (pm_r 20 0), some (pm_i (nI 0)), some (pm_i v2), u3, u4] [] (mm x R Z Y o A c G g) Q) (k2 : (¬ (v2 < 0)) → pW ns d 72 87 [some (pm_r 20 0), some (pm_i (nI 1)), some (pm_i v2), u3, u4] [] (mm x R Z Y o A c G g) Q) : pW ns d 72 73 [some (pm_r 20 0), u1, some (pm_i v2), u3, u4] [] (mm x R Z Y o A c G g) Q := by
  refine b72_73 hR  (fun h1 => ?_) (fun h1 => ?_)
  · skip
    refine b72_81 hR   (fun h2 => ?_) (fun h2 => ?_)
    · skip
      refine b72_110 hR   (fun h3 => ?_) (fun h3 => ?_)
      · skip
        exact b72_121 hR   (k1 h1)
      · exact absurd h3 (by decide)
    · exact absurd h2 (by decide)
  · skip
    refine b72_77 hR   (fun h2 => ?_) (fun h2 => ?_)
    · exact absurd h2 (by decide)
    · skip
      exact (k2 h1)
set_option maxRecDepth 20000 in
theorem t72_16 (hR : RS R) {v1 : Int32} {v2 : Int32} {v3 : Int32} {u4 : Option pm_V} {j1 : Nat} (e1 : v3 = nI j1) (l1 : j1 < 8) (k1 : (G 21 j1 = nI 2) → pW ns d 72 26 [some (pm_r 20 0), some (pm_i v1), some (pm_i v2), some (pm_i v3), u4] [] (mm x R Z Y o A c G g) Q) (k2 : (¬ (G 21 j1 = nI 2)) → pW ns d 72 10 [some (pm_r 20 0), some (pm_i v1), some (pm_i v2), some (pm_i (v3 + (nI 1))), some (pm_i (nI 0))] [] (mm x R Z Y o A c G g) Q) : pW ns d 72 16 [some (pm_r 20 0), some (pm_i v1), some (pm_i v2), some (pm_i v3), u4] [] (mm x R Z Y o A c G g) Q := by
  refine b72_16 hR e1 l1 (fun h1 => ?_) (fun h1 => ?_)
  · skip
    exact (k1 h1)
  · skip
    refine b72_38 hR   (fun h2 => ?_) (fun h2 => ?_)
    · skip
      exact b72_67 hR   (k2 h1)
    · exact absurd h2 (by decide)
set_option maxRecDepth 20000 in
theorem t72_81 (hR : RS R) {u1 : Option pm_V} {v2 : Int32} {u3 : Option pm_V} {u4 : Option pm_V}  (k1 : pW ns d 72 2 [some (pm_r 20 0), some (pm_i (nI 0)), some (pm_i v2), u3, u4] [] (mm x R Z Y o A c G g) Q) : pW ns d 72 81 [some (pm_r 20 0), u1, some (pm_i v2), u3, u4] [] (mm x R Z Y o A c G g) Q := by
  refine b72_81 hR  (fun h1 => ?_) (fun h1 => ?_)
  · skip
    refine b72_110 hR   (fun h2 => ?_) (fun h2 => ?_)
    · skip
      exact b72_121 hR   (k1 )
    · exact absurd h2 (by decide)
  · exact absurd h1 (by decide)
set_option maxRecDepth 20000 in
theorem t72_77 (hR : RS R) {u1 : Option pm_V} {v2 : Int32} {u3 : Option pm_V} {u4 : Option pm_V}  (k1 : pW ns d 72 87 [some (pm_r 20 0), some (pm_i (nI 1)), some (pm_i v2), u3, u4] [] (mm x R Z Y o A c G g) Q) : pW ns d 72 77 [some (pm_r 20 0), u1, some (pm_i v2), u3, u4] [] (mm x R Z Y o A c G g) Q := by
  refine b72_77 hR  (fun h1 => ?_) (fun h1 => ?_)
  · exact absurd h1 (by decide)
  · skip
    exact (k1 )
set_option maxRecDepth 20000 in
theorem t72_38 (hR : RS R) {v1 : Int32} {v2 : Int32} {v3 : Int32} {u4 : Option pm_V}  (k1 : pW ns d 72 10 [some (pm_r 20 0), some (pm_i v1), some (pm_i v2), some (pm_i (v3 + (nI 1))), some (pm_i (nI 0))] [] (mm x R Z Y o A c G g) Q) : pW ns d 72 38 [some (pm_r 20 0), some (pm_i v1), some (pm_i v2), some (pm_i v3), u4] [] (mm x R Z Y o A c G g) Q := by
  refine b72_38 hR  (fun h1 => ?_) (fun h1 => ?_)
  · skip
    exact b72_67 hR   (k1 )
  · exact absurd h1 (by decide)
set_option maxRecDepth 20000 in
theorem t72_110 (hR : RS R) {v1 : Int32} {v2 : Int32} {u3 : Option pm_V} {u4 : Option pm_V}  (k1 : (v1 = 0) → pW ns d 72 2 [some (pm_r 20 0), some (pm_i v1), some (pm_i v2), u3, u4] [] (mm x R Z Y o A c G g) Q) (k2 : (¬ (v1 = 0)) → pW ns d 72 114 [some (pm_r 20 0), some (pm_i v1), some (pm_i v2), u3, u4] [] (mm x R Z Y o A c G g) Q) : pW ns d 72 110 [some (pm_r 20 0), some (pm_i v1), some (pm_i v2), u3, u4] [] (mm x R Z Y o A c G g) Q := by
  refine b72_110 hR  (fun h1 => ?_) (fun h1 => ?_)
  · skip
    exact b72_121 hR   (k1 h1)
  · skip
    exact (k2 h1)
set_option maxRecDepth 20000 in
theorem t72_31 (hR : RS R) {v1 : Int32} {v2 : Int32} {v3 : Int32} {u4 : Option pm_V} {vs0 : Int32}  (k1 : (vs0 ≤ 0) → pW ns d 72 10 [some (pm_r 20 0), some (pm_i v1), some (pm_i v2), some (pm_i (v3 + (nI 1))), some (pm_i (nI 0))] [] (mm x R Z Y o A c G g) Q) (k2 : (¬ (vs0 ≤ 0)) → (v2 < 0) → pW ns d 72 10 [some (pm_r 20 0), some (pm_i v1), some (pm_i v3), some (pm_i (v3 + (nI 1))), some (pm_i (nI 1))] [] (mm x R Z Y o A c G g) Q) (k3 : (¬ (vs0 ≤ 0)) → (¬ (v2 < 0)) → pW ns d 72 50 [some (pm_r 20 0), some (pm_i v1), some (pm_i v2), some (pm_i v3), some (pm_i (nI 1))] [] (mm x R Z Y o A c G g) Q) : pW ns d 72 31 [some (pm_r 20 0), some (pm_i v1), some (pm_i v2), some (pm_i v3), u4] [pm_i vs0] (mm x R Z Y o A c G g) Q := by
  refine b72_31 hR  (fun h1 => ?_) (fun h1 => ?_)
  · skip
    refine b72_38 hR   (fun h2 => ?_) (fun h2 => ?_)
    · skip
      exact b72_67 hR   (k1 h1)
    · exact absurd h2 (by decide)
  · skip
    refine b72_34 hR   (fun h2 => ?_) (fun h2 => ?_)
    · exact absurd h2 (by decide)
    · skip
      refine b72_46 hR   (fun h3 => ?_) (fun h3 => ?_)
      · skip
        exact b72_65 hR   (k2 h1 h3)
      · skip
        exact (k3 h1 h3)
set_option maxRecDepth 20000 in
theorem t72_46 (hR : RS R) {v1 : Int32} {v2 : Int32} {v3 : Int32} {u4 : Option pm_V}  (k1 : (v2 < 0) → pW ns d 72 10 [some (pm_r 20 0), some (pm_i v1), some (pm_i v3), some (pm_i (v3 + (nI 1))), u4] [] (mm x R Z Y o A c G g) Q) (k2 : (¬ (v2 < 0)) → pW ns d 72 50 [some (pm_r 20 0), some (pm_i v1), some (pm_i v2), some (pm_i v3), u4] [] (mm x R Z Y o A c G g) Q) : pW ns d 72 46 [some (pm_r 20 0), some (pm_i v1), some (pm_i v2), some (pm_i v3), u4] [] (mm x R Z Y o A c G g) Q := by
  refine b72_46 hR  (fun h1 => ?_) (fun h1 => ?_)
  · skip
    exact b72_65 hR   (k1 h1)
  · skip
    exact (k2 h1)
set_option maxRecDepth 20000 in
theorem t72_92 (hR : RS R) {v1 : Int32} {v2 : Int32} {u3 : Option pm_V} {u4 : Option pm_V} {vs0 : Int32}  (k1 : (vs0 = nI 2) → pW ns d 72 96 [some (pm_r 20 0), some (pm_i v1), some (pm_i v2), u3, u4] [] (mm x R Z Y o A c G g) Q) (k2 : (¬ (vs0 = nI 2)) → (v1 = 0) → pW ns d 72 2 [some (pm_r 20 0), some (pm_i v1), some (pm_i v2), u3, u4] [] (mm x R Z Y o A c G g) Q) (k3 : (¬ (vs0 = nI 2)) → (¬ (v1 = 0)) → pW ns d 72 114 [some (pm_r 20 0), some (pm_i v1), some (pm_i v2), u3, u4] [] (mm x R Z Y o A c G g) Q) : pW ns d 72 92 [some (pm_r 20 0), some (pm_i v1), some (pm_i v2), u3, u4] [pm_i vs0] (mm x R Z Y o A c G g) Q := by
  refine b72_92 hR  (fun h1 => ?_) (fun h1 => ?_)
  · skip
    exact (k1 h1)
  · skip
    refine b72_110 hR   (fun h2 => ?_) (fun h2 => ?_)
    · skip
      exact b72_121 hR   (k2 h1 h2)
    · skip
      exact (k3 h1 h2)
set_option maxRecDepth 20000 in
theorem t72_34 (hR : RS R) {v1 : Int32} {v2 : Int32} {v3 : Int32} {u4 : Option pm_V}  (k1 : (v2 < 0) → pW ns d 72 10 [some (pm_r 20 0), some (pm_i v1), some (pm_i v3), some (pm_i (v3 + (nI 1))), some (pm_i (nI 1))] [] (mm x R Z Y o A c G g) Q) (k2 : (¬ (v2 < 0)) → pW ns d 72 50 [some (pm_r 20 0), some (pm_i v1), some (pm_i v2), some (pm_i v3), some (pm_i (nI 1))] [] (mm x R Z Y o A c G g) Q) : pW ns d 72 34 [some (pm_r 20 0), some (pm_i v1), some (pm_i v2), some (pm_i v3), u4] [] (mm x R Z Y o A c G g) Q := by
  refine b72_34 hR  (fun h1 => ?_) (fun h1 => ?_)
  · exact absurd h1 (by decide)
  · skip
    refine b72_46 hR   (fun h2 => ?_) (fun h2 => ?_)
    · skip
      exact b72_65 hR   (k1 h2)
    · skip
      exact (k2 h2)
set_option maxRecDepth 20000 in
theorem t72_50 (hR : RS R) {v1 : Int32} {v2 : Int32} {v3 : Int32} {u4 : Option pm_V} {j1 : Nat} {j2 : Nat} (e1 : v3 = nI j1) (l1 : j1 < 8) (e2 : v2 = nI j2) (l2 : j2 < 8) (k1 : (G 39 j2 ≤ G 39 j1) → pW ns d 72 10 [some (pm_r 20 0), some (pm_i v1), some (pm_i v2), some (pm_i (v3 + (nI 1))), u4] [] (mm x R Z Y o A c G g) Q) (k2 : (¬ (G 39 j2 ≤ G 39 j1)) → pW ns d 72 10 [some (pm_r 20 0), some (pm_i v1), some (pm_i v3), some (pm_i (v3 + (nI 1))), u4] [] (mm x R Z Y o A c G g) Q) : pW ns d 72 50 [some (pm_r 20 0), some (pm_i v1), some (pm_i v2), some (pm_i v3), u4] [] (mm x R Z Y o A c G g) Q := by
  refine b72_50 hR e1 l1 e2 l2 (fun h1 => ?_) (fun h1 => ?_)
  · skip
    exact b72_67 hR   (k1 h1)
  · skip
    exact b72_65 hR   (k2 h1)
end BLK
