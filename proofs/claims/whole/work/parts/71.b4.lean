/-! @70.wp@ blocks, printed by program (wip/whole/gen/blk.py) -/
section BLK
variable {ns d x : Nat} {R : Nat → Nat → Nat → Option (Nat × Nat)} {Z A : Nat → Nat → Nat → Int32} {Y : Nat → Nat → Nat → Int64} {o : Int64} {c g : Nat → Int64} {G : Nat → Nat → Int32} {Q : pm_O × pm_M → Prop}
/-! 46 JobLayerModel.thrown -/
set_option maxRecDepth 20000 in
theorem b46_0 (hR : RS R)    (k : Q (.inl (some (pm_i (G 20 0))), (mm x R Z Y o A c G g))) : pW ns d 46 0 [some (pm_r 20 0)] [] (mm x R Z Y o A c G g) Q := by
  refine pW_eq 2 (pc' := 4) (L' := [some (pm_r 20 0)]) (S' := [pm_i (G 20 0)]) (M' := (mm x R Z Y o A c G g)) (fun call n => ?_) ?_
  · refine Eq.trans (b := pm_g (mm x R Z Y o A c G g) 20 0 (pm_go call ns d 46 n 4 [some (pm_r 20 0)] [pm_i (G 20 0)] (mm x R Z Y o A c G g))) rfl ?_
    refine (g_ok (f := 20) (by decide) rfl).trans ?_
    rfl
  refine pW_ret 1 (fun call n => ?_) k
  rfl
/-! 47 JobLayerModel.isProcess -/
set_option maxRecDepth 20000 in
theorem b47_0 (hR : RS R) {u0 : Option pm_V} {v1 : Int32}   (k1 : v1 < 0 → pW ns d 47 14 [u0, some (pm_i v1)] [] (mm x R Z Y o A c G g) Q) (k2 : ¬ (v1 < 0) → pW ns d 47 4 [u0, some (pm_i v1)] [] (mm x R Z Y o A c G g) Q) : pW ns d 47 0 [u0, some (pm_i v1)] [] (mm x R Z Y o A c G g) Q := by
  exact pW_if 2 (c := v1 < 0) (fun call n => rfl) k1 k2
set_option maxRecDepth 20000 in
theorem b47_14 (hR : RS R) {u0 : Option pm_V} {u1 : Option pm_V}   (k : Q (.inl (some (pm_i (nI 0))), (mm x R Z Y o A c G g))) : pW ns d 47 14 [u0, u1] [] (mm x R Z Y o A c G g) Q := by
  refine pW_ret 2 (fun call n => ?_) k
  exact Eq.trans (b := pm_bo (nI 0) (some (.inl (some (pm_i (nI 0))), (mm x R Z Y o A c G g)))) rfl (bo_ok (by decide))
set_option maxRecDepth 20000 in
theorem b47_4 (hR : RS R) {u0 : Option pm_V} {v1 : Int32}   (k1 : nI 8 ≤ v1 → pW ns d 47 14 [u0, some (pm_i v1)] [] (mm x R Z Y o A c G g) Q) (k2 : ¬ (nI 8 ≤ v1) → pW ns d 47 10 [u0, some (pm_i v1)] [] (mm x R Z Y o A c G g) Q) : pW ns d 47 4 [u0, some (pm_i v1)] [] (mm x R Z Y o A c G g) Q := by
  exact pW_if 3 (c := nI 8 ≤ v1) (fun call n => rfl) k1 k2
set_option maxRecDepth 20000 in
theorem b47_10 (hR : RS R) {u0 : Option pm_V} {u1 : Option pm_V}   (k : Q (.inl (some (pm_i (nI 1))), (mm x R Z Y o A c G g))) : pW ns d 47 10 [u0, u1] [] (mm x R Z Y o A c G g) Q := by
  refine pW_ret 3 (fun call n => ?_) k
  exact Eq.trans (b := pm_bo (nI 1) (some (.inl (some (pm_i (nI 1))), (mm x R Z Y o A c G g)))) rfl (bo_ok (by decide))
set_option maxRecDepth 20000 in
theorem t47_0 (hR : RS R) {u0 : Option pm_V} {v1 : Int32}  (k1 : (v1 < 0) → Q (.inl (some (pm_i (nI 0))), (mm x R Z Y o A c G g))) (k2 : (¬ (v1 < 0)) → (nI 8 ≤ v1) → Q (.inl (some (pm_i (nI 0))), (mm x R Z Y o A c G g))) (k3 : (¬ (v1 < 0)) → (¬ (nI 8 ≤ v1)) → Q (.inl (some (pm_i (nI 1))), (mm x R Z Y o A c G g))) : pW ns d 47 0 [u0, some (pm_i v1)] [] (mm x R Z Y o A c G g) Q := by
  refine b47_0 hR  (fun h1 => ?_) (fun h1 => ?_)
  · skip
    exact b47_14 hR   (k1 h1)
  · skip
    refine b47_4 hR   (fun h2 => ?_) (fun h2 => ?_)
    · skip
      exact b47_14 hR   (k2 h1 h2)
    · skip
      exact b47_10 hR   (k3 h1 h2)
set_option maxRecDepth 20000 in
theorem t47_4 (hR : RS R) {u0 : Option pm_V} {v1 : Int32}  (k1 : (nI 8 ≤ v1) → Q (.inl (some (pm_i (nI 0))), (mm x R Z Y o A c G g))) (k2 : (¬ (nI 8 ≤ v1)) → Q (.inl (some (pm_i (nI 1))), (mm x R Z Y o A c G g))) : pW ns d 47 4 [u0, some (pm_i v1)] [] (mm x R Z Y o A c G g) Q := by
  refine b47_4 hR  (fun h1 => ?_) (fun h1 => ?_)
  · skip
    exact b47_14 hR   (k1 h1)
  · skip
    exact b47_10 hR   (k2 h1)
/-! 48 JobLayerModel.isLive -/
set_option maxRecDepth 20000 in
theorem b48_0 (hR : RS R) {v1 : Int32} {j1 : Nat} (e1 : v1 = nI j1) (l1 : j1 < 8)  (k1 : G 21 j1 ≤ 0 → pW ns d 48 23 [some (pm_r 20 0), some (pm_i v1)] [] (mm x R Z Y o A c G g) Q) (k2 : ¬ (G 21 j1 ≤ 0) → pW ns d 48 9 [some (pm_r 20 0), some (pm_i v1)] [] (mm x R Z Y o A c G g) Q) : pW ns d 48 0 [some (pm_r 20 0), some (pm_i v1)] [] (mm x R Z Y o A c G g) Q := by
  refine pW_eq 2 (pc' := 4) (L' := [some (pm_r 20 0), some (pm_i v1)]) (S' := [pm_r 21 0]) (M' := (mm x R Z Y o A c G g)) (fun call n => ?_) ?_
  · refine Eq.trans (b := pm_g (mm x R Z Y o A c G g) 20 0 (pm_go call ns d 48 n 4 [some (pm_r 20 0), some (pm_i v1)] [pm_a (R 20 0 1)] (mm x R Z Y o A c G g))) rfl ?_
    refine (g_ok (f := 20) (by decide) rfl).trans ?_
    exact (congrArg (fun z => pm_go call ns d 48 n 4 [some (pm_r 20 0), some (pm_i v1)] [pm_a z] (mm x R Z Y o A c G g)) (rs_20_1 hR))
  refine pW_eq 2 (pc' := 6) (L' := [some (pm_r 20 0), some (pm_i v1)]) (S' := [pm_i (G 21 j1)]) (M' := (mm x R Z Y o A c G g)) (fun call n => ?_) ?_
  · refine Eq.trans (b := pm_g (mm x R Z Y o A c G g) 21 0 (pm_ix (v1) 8 (fun jx => pm_go call ns d 48 n 6 [some (pm_r 20 0), some (pm_i v1)] [pm_i (G 21 jx)] (mm x R Z Y o A c G g)))) rfl ?_
    refine (g_ok (f := 21) (by decide) rfl).trans ?_
    refine (ix_ok (j := j1) e1 l1 (by decide)).trans ?_
    rfl
  exact pW_if 1 (c := G 21 j1 ≤ 0) (fun call n => rfl) k1 k2
set_option maxRecDepth 20000 in
theorem b48_23 (hR : RS R) {u0 : Option pm_V} {u1 : Option pm_V}   (k : Q (.inl (some (pm_i (nI 0))), (mm x R Z Y o A c G g))) : pW ns d 48 23 [u0, u1] [] (mm x R Z Y o A c G g) Q := by
  refine pW_ret 2 (fun call n => ?_) k
  exact Eq.trans (b := pm_bo (nI 0) (some (.inl (some (pm_i (nI 0))), (mm x R Z Y o A c G g)))) rfl (bo_ok (by decide))
set_option maxRecDepth 20000 in
theorem b48_9 (hR : RS R) {v1 : Int32} {j1 : Nat} (e1 : v1 = nI j1) (l1 : j1 < 8)  (k1 : nI 4 ≤ G 21 j1 → pW ns d 48 23 [some (pm_r 20 0), some (pm_i v1)] [] (mm x R Z Y o A c G g) Q) (k2 : ¬ (nI 4 ≤ G 21 j1) → pW ns d 48 19 [some (pm_r 20 0), some (pm_i v1)] [] (mm x R Z Y o A c G g) Q) : pW ns d 48 9 [some (pm_r 20 0), some (pm_i v1)] [] (mm x R Z Y o A c G g) Q := by
  refine pW_eq 2 (pc' := 13) (L' := [some (pm_r 20 0), some (pm_i v1)]) (S' := [pm_r 21 0]) (M' := (mm x R Z Y o A c G g)) (fun call n => ?_) ?_
  · refine Eq.trans (b := pm_g (mm x R Z Y o A c G g) 20 0 (pm_go call ns d 48 n 13 [some (pm_r 20 0), some (pm_i v1)] [pm_a (R 20 0 1)] (mm x R Z Y o A c G g))) rfl ?_
    refine (g_ok (f := 20) (by decide) rfl).trans ?_
    exact (congrArg (fun z => pm_go call ns d 48 n 13 [some (pm_r 20 0), some (pm_i v1)] [pm_a z] (mm x R Z Y o A c G g)) (rs_20_1 hR))
  refine pW_eq 2 (pc' := 15) (L' := [some (pm_r 20 0), some (pm_i v1)]) (S' := [pm_i (G 21 j1)]) (M' := (mm x R Z Y o A c G g)) (fun call n => ?_) ?_
  · refine Eq.trans (b := pm_g (mm x R Z Y o A c G g) 21 0 (pm_ix (v1) 8 (fun jx => pm_go call ns d 48 n 15 [some (pm_r 20 0), some (pm_i v1)] [pm_i (G 21 jx)] (mm x R Z Y o A c G g)))) rfl ?_
    refine (g_ok (f := 21) (by decide) rfl).trans ?_
    refine (ix_ok (j := j1) e1 l1 (by decide)).trans ?_
    rfl
  exact pW_if 2 (c := nI 4 ≤ G 21 j1) (fun call n => rfl) k1 k2
set_option maxRecDepth 20000 in
theorem b48_19 (hR : RS R) {u0 : Option pm_V} {u1 : Option pm_V}   (k : Q (.inl (some (pm_i (nI 1))), (mm x R Z Y o A c G g))) : pW ns d 48 19 [u0, u1] [] (mm x R Z Y o A c G g) Q := by
  refine pW_ret 3 (fun call n => ?_) k
  exact Eq.trans (b := pm_bo (nI 1) (some (.inl (some (pm_i (nI 1))), (mm x R Z Y o A c G g)))) rfl (bo_ok (by decide))
set_option maxRecDepth 20000 in
theorem t48_0 (hR : RS R) {v1 : Int32} {j1 : Nat} (e1 : v1 = nI j1) (l1 : j1 < 8) (k1 : (G 21 j1 ≤ 0) → Q (.inl (some (pm_i (nI 0))), (mm x R Z Y o A c G g))) (k2 : (¬ (G 21 j1 ≤ 0)) → (nI 4 ≤ G 21 j1) → Q (.inl (some (pm_i (nI 0))), (mm x R Z Y o A c G g))) (k3 : (¬ (G 21 j1 ≤ 0)) → (¬ (nI 4 ≤ G 21 j1)) → Q (.inl (some (pm_i (nI 1))), (mm x R Z Y o A c G g))) : pW ns d 48 0 [some (pm_r 20 0), some (pm_i v1)] [] (mm x R Z Y o A c G g) Q := by
  refine b48_0 hR e1 l1 (fun h1 => ?_) (fun h1 => ?_)
  · skip
    exact b48_23 hR   (k1 h1)
  · skip
    refine b48_9 hR  e1 l1 (fun h2 => ?_) (fun h2 => ?_)
    · skip
      exact b48_23 hR   (k2 h1 h2)
    · skip
      exact b48_19 hR   (k3 h1 h2)
set_option maxRecDepth 20000 in
theorem t48_9 (hR : RS R) {v1 : Int32} {j1 : Nat} (e1 : v1 = nI j1) (l1 : j1 < 8) (k1 : (nI 4 ≤ G 21 j1) → Q (.inl (some (pm_i (nI 0))), (mm x R Z Y o A c G g))) (k2 : (¬ (nI 4 ≤ G 21 j1)) → Q (.inl (some (pm_i (nI 1))), (mm x R Z Y o A c G g))) : pW ns d 48 9 [some (pm_r 20 0), some (pm_i v1)] [] (mm x R Z Y o A c G g) Q := by
  refine b48_9 hR e1 l1 (fun h1 => ?_) (fun h1 => ?_)
  · skip
    exact b48_23 hR   (k1 h1)
  · skip
    exact b48_19 hR   (k2 h1)
/-! 49 JobLayerModel.ends -/
set_option maxRecDepth 20000 in
theorem b49_0 (hR : RS R) {v1 : Int32} {u2 : Option pm_V} {u3 : Option pm_V}   (k : pW ns d 49 4 [some (pm_r 20 0), some (pm_i v1), some (pm_i (nI 0)), some (pm_i (nI 0))] [] (mm x R Z Y o A c G g) Q) : pW ns d 49 0 [some (pm_r 20 0), some (pm_i v1), u2, u3] [] (mm x R Z Y o A c G g) Q := by
  exact pW_eq 4 (fun call n => rfl) k
set_option maxRecDepth 20000 in
theorem b49_4 (hR : RS R) {v1 : Int32} {v2 : Int32} {v3 : Int32}   (k1 : nI 48 ≤ v3 → pW ns d 49 34 [some (pm_r 20 0), some (pm_i v1), some (pm_i v2), some (pm_i v3)] [] (mm x R Z Y o A c G g) Q) (k2 : ¬ (nI 48 ≤ v3) → pW ns d 49 10 [some (pm_r 20 0), some (pm_i v1), some (pm_i v2), some (pm_i v3)] [] (mm x R Z Y o A c G g) Q) : pW ns d 49 4 [some (pm_r 20 0), some (pm_i v1), some (pm_i v2), some (pm_i v3)] [] (mm x R Z Y o A c G g) Q := by
  exact pW_if 3 (c := nI 48 ≤ v3) (fun call n => rfl) k1 k2
set_option maxRecDepth 20000 in
theorem b49_34 (hR : RS R) {u0 : Option pm_V} {u1 : Option pm_V} {v2 : Int32} {u3 : Option pm_V}   (k : Q (.inl (some (pm_i v2)), (mm x R Z Y o A c G g))) : pW ns d 49 34 [u0, u1, some (pm_i v2), u3] [] (mm x R Z Y o A c G g) Q := by
  refine pW_ret 2 (fun call n => ?_) k
  rfl
set_option maxRecDepth 20000 in
theorem b49_10 (hR : RS R) {v1 : Int32} {v2 : Int32} {v3 : Int32} {j1 : Nat} (e1 : v3 = nI j1) (l1 : j1 < 48)  (k1 : G 32 j1 = v1 → pW ns d 49 21 [some (pm_r 20 0), some (pm_i v1), some (pm_i v2), some (pm_i v3)] [pm_i v2] (mm x R Z Y o A c G g) Q) (k2 : ¬ (G 32 j1 = v1) → pW ns d 49 25 [some (pm_r 20 0), some (pm_i v1), some (pm_i v2), some (pm_i v3)] [pm_i v2] (mm x R Z Y o A c G g) Q) : pW ns d 49 10 [some (pm_r 20 0), some (pm_i v1), some (pm_i v2), some (pm_i v3)] [] (mm x R Z Y o A c G g) Q := by
  refine pW_eq 3 (pc' := 15) (L' := [some (pm_r 20 0), some (pm_i v1), some (pm_i v2), some (pm_i v3)]) (S' := [pm_r 32 0, pm_i v2]) (M' := (mm x R Z Y o A c G g)) (fun call n => ?_) ?_
  · refine Eq.trans (b := pm_g (mm x R Z Y o A c G g) 20 0 (pm_go call ns d 49 n 15 [some (pm_r 20 0), some (pm_i v1), some (pm_i v2), some (pm_i v3)] [pm_a (R 20 0 12), pm_i v2] (mm x R Z Y o A c G g))) rfl ?_
    refine (g_ok (f := 20) (by decide) rfl).trans ?_
    exact (congrArg (fun z => pm_go call ns d 49 n 15 [some (pm_r 20 0), some (pm_i v1), some (pm_i v2), some (pm_i v3)] [pm_a z, pm_i v2] (mm x R Z Y o A c G g)) (rs_20_12 hR))
  refine pW_eq 2 (pc' := 17) (L' := [some (pm_r 20 0), some (pm_i v1), some (pm_i v2), some (pm_i v3)]) (S' := [pm_i (G 32 j1), pm_i v2]) (M' := (mm x R Z Y o A c G g)) (fun call n => ?_) ?_
  · refine Eq.trans (b := pm_g (mm x R Z Y o A c G g) 32 0 (pm_ix (v3) 48 (fun jx => pm_go call ns d 49 n 17 [some (pm_r 20 0), some (pm_i v1), some (pm_i v2), some (pm_i v3)] [pm_i (G 32 jx), pm_i v2] (mm x R Z Y o A c G g)))) rfl ?_
    refine (g_ok (f := 32) (by decide) rfl).trans ?_
    refine (ix_ok (j := j1) e1 l1 (by decide)).trans ?_
    rfl
  exact pW_if 2 (c := G 32 j1 = v1) (fun call n => rfl) k1 k2
set_option maxRecDepth 20000 in
theorem b49_21 (hR : RS R) {v1 : Int32} {u2 : Option pm_V} {v3 : Int32} {vs0 : Int32}   (k : pW ns d 49 4 [some (pm_r 20 0), some (pm_i v1), some (pm_i (vs0 + (nI 1))), some (pm_i (v3 + (nI 1)))] [] (mm x R Z Y o A c G g) Q) : pW ns d 49 21 [some (pm_r 20 0), some (pm_i v1), u2, some (pm_i v3)] [pm_i vs0] (mm x R Z Y o A c G g) Q := by
  exact pW_eq 6 (fun call n => rfl) k
set_option maxRecDepth 20000 in
theorem b49_25 (hR : RS R) {v1 : Int32} {u2 : Option pm_V} {v3 : Int32} {vs0 : Int32}   (k : pW ns d 49 4 [some (pm_r 20 0), some (pm_i v1), some (pm_i (vs0 + (nI 0))), some (pm_i (v3 + (nI 1)))] [] (mm x R Z Y o A c G g) Q) : pW ns d 49 25 [some (pm_r 20 0), some (pm_i v1), u2, some (pm_i v3)] [pm_i vs0] (mm x R Z Y o A c G g) Q := by
  exact pW_eq 5 (fun call n => rfl) k
set_option maxRecDepth 20000 in
theorem t49_4 (hR : RS R) {v1 : Int32} {v2 : Int32} {v3 : Int32}  (k1 : (nI 48 ≤ v3) → Q (.inl (some (pm_i v2)), (mm x R Z Y o A c G g))) (k2 : (¬ (nI 48 ≤ v3)) → pW ns d 49 10 [some (pm_r 20 0), some (pm_i v1), some (pm_i v2), some (pm_i v3)] [] (mm x R Z Y o A c G g) Q) : pW ns d 49 4 [some (pm_r 20 0), some (pm_i v1), some (pm_i v2), some (pm_i v3)] [] (mm x R Z Y o A c G g) Q := by
  refine b49_4 hR  (fun h1 => ?_) (fun h1 => ?_)
  · skip
    exact b49_34 hR   (k1 h1)
  · skip
    exact (k2 h1)
set_option maxRecDepth 20000 in
theorem t49_10 (hR : RS R) {v1 : Int32} {v2 : Int32} {v3 : Int32} {j1 : Nat} (e1 : v3 = nI j1) (l1 : j1 < 48) (k1 : (G 32 j1 = v1) → pW ns d 49 4 [some (pm_r 20 0), some (pm_i v1), some (pm_i (v2 + (nI 1))), some (pm_i (v3 + (nI 1)))] [] (mm x R Z Y o A c G g) Q) (k2 : (¬ (G 32 j1 = v1)) → pW ns d 49 4 [some (pm_r 20 0), some (pm_i v1), some (pm_i (v2 + (nI 0))), some (pm_i (v3 + (nI 1)))] [] (mm x R Z Y o A c G g) Q) : pW ns d 49 10 [some (pm_r 20 0), some (pm_i v1), some (pm_i v2), some (pm_i v3)] [] (mm x R Z Y o A c G g) Q := by
  refine b49_10 hR e1 l1 (fun h1 => ?_) (fun h1 => ?_)
  · skip
    exact b49_21 hR   (k1 h1)
  · skip
    exact b49_25 hR   (k2 h1)
/-! 50 JobLayerModel.isPipe -/
set_option maxRecDepth 20000 in
theorem b50_0 (hR : RS R) {v1 : Int32}  {x2 : Nat} {o2 : Int64} {A2 : Nat → Nat → Nat → Int32} {c2 : Nat → Int64} {G2 : Nat → Nat → Int32} {g2 : Nat → Int64} {y : Int32} (hE : pE ns d 49 [pm_r 20 0, pm_i ((nI 2) + ((nI 2) * v1))] (mm x R Z Y o A c G g) (.inl (some (pm_i y)), (mm x2 R Z Y o2 A2 c2 G2 g2))) (k : pW ns d 50 9 [some (pm_r 20 0), some (pm_i v1)] [pm_i y] (mm x2 R Z Y o2 A2 c2 G2 g2) Q) : pW ns d 50 0 [some (pm_r 20 0), some (pm_i v1)] [] (mm x R Z Y o A c G g) Q := by
  refine pW_call (pc' := 6) (r := []) (L' := [some (pm_r 20 0), some (pm_i v1)]) 7 (fun call n => ?_) hE k
  exact Eq.trans (b := pm_g (mm x R Z Y o A c G g) 20 0 (pm_cl call 50 (pm_go call ns d 50 n) 6 49 [pm_r 20 0, pm_i ((nI 2) + ((nI 2) * v1))] [] [some (pm_r 20 0), some (pm_i v1)] (mm x R Z Y o A c G g))) rfl (g_ok (f := 20) (by decide) rfl)
set_option maxRecDepth 20000 in
theorem b50_9 (hR : RS R) {v1 : Int32} {vs0 : Int32}  {x2 : Nat} {o2 : Int64} {A2 : Nat → Nat → Nat → Int32} {c2 : Nat → Int64} {G2 : Nat → Nat → Int32} {g2 : Nat → Int64} {y : Int32} (hE : pE ns d 49 [pm_r 20 0, pm_i ((nI 3) + ((nI 2) * v1))] (mm x R Z Y o A c G g) (.inl (some (pm_i y)), (mm x2 R Z Y o2 A2 c2 G2 g2))) (k : pW ns d 50 18 [some (pm_r 20 0), some (pm_i v1)] [pm_i y, pm_i vs0] (mm x2 R Z Y o2 A2 c2 G2 g2) Q) : pW ns d 50 9 [some (pm_r 20 0), some (pm_i v1)] [pm_i vs0] (mm x R Z Y o A c G g) Q := by
  refine pW_call (pc' := 15) (r := [pm_i vs0]) (L' := [some (pm_r 20 0), some (pm_i v1)]) 7 (fun call n => ?_) hE k
  exact Eq.trans (b := pm_g (mm x R Z Y o A c G g) 20 0 (pm_cl call 50 (pm_go call ns d 50 n) 15 49 [pm_r 20 0, pm_i ((nI 3) + ((nI 2) * v1))] [pm_i vs0] [some (pm_r 20 0), some (pm_i v1)] (mm x R Z Y o A c G g))) rfl (g_ok (f := 20) (by decide) rfl)
set_option maxRecDepth 20000 in
theorem b50_18 (hR : RS R) {u0 : Option pm_V} {u1 : Option pm_V} {vs0 : Int32} {vs1 : Int32}   (k1 : vs1 + vs0 ≤ 0 → pW ns d 50 26 [u0, u1] [] (mm x R Z Y o A c G g) Q) (k2 : ¬ (vs1 + vs0 ≤ 0) → pW ns d 50 22 [u0, u1] [] (mm x R Z Y o A c G g) Q) : pW ns d 50 18 [u0, u1] [pm_i vs0, pm_i vs1] (mm x R Z Y o A c G g) Q := by
  exact pW_if 2 (c := vs1 + vs0 ≤ 0) (fun call n => rfl) k1 k2
set_option maxRecDepth 20000 in
theorem b50_26 (hR : RS R) {u0 : Option pm_V} {u1 : Option pm_V}   (k : Q (.inl (some (pm_i (nI 0))), (mm x R Z Y o A c G g))) : pW ns d 50 26 [u0, u1] [] (mm x R Z Y o A c G g) Q := by
  refine pW_ret 2 (fun call n => ?_) k
  exact Eq.trans (b := pm_bo (nI 0) (some (.inl (some (pm_i (nI 0))), (mm x R Z Y o A c G g)))) rfl (bo_ok (by decide))
set_option maxRecDepth 20000 in
theorem b50_22 (hR : RS R) {u0 : Option pm_V} {u1 : Option pm_V}   (k : Q (.inl (some (pm_i (nI 1))), (mm x R Z Y o A c G g))) : pW ns d 50 22 [u0, u1] [] (mm x R Z Y o A c G g) Q := by
  refine pW_ret 3 (fun call n => ?_) k
  exact Eq.trans (b := pm_bo (nI 1) (some (.inl (some (pm_i (nI 1))), (mm x R Z Y o A c G g)))) rfl (bo_ok (by decide))
set_option maxRecDepth 20000 in
theorem t50_18 (hR : RS R) {u0 : Option pm_V} {u1 : Option pm_V} {vs0 : Int32} {vs1 : Int32}  (k1 : (vs1 + vs0 ≤ 0) → Q (.inl (some (pm_i (nI 0))), (mm x R Z Y o A c G g))) (k2 : (¬ (vs1 + vs0 ≤ 0)) → Q (.inl (some (pm_i (nI 1))), (mm x R Z Y o A c G g))) : pW ns d 50 18 [u0, u1] [pm_i vs0, pm_i vs1] (mm x R Z Y o A c G g) Q := by
  refine b50_18 hR  (fun h1 => ?_) (fun h1 => ?_)
  · skip
    exact b50_26 hR   (k1 h1)
  · skip
    exact b50_22 hR   (k2 h1)
/-! 51 JobLayerModel.pipes -/
set_option maxRecDepth 20000 in
theorem b51_0 (hR : RS R) {u1 : Option pm_V} {u2 : Option pm_V}   (k : pW ns d 51 4 [some (pm_r 20 0), some (pm_i (nI 0)), some (pm_i (nI 0))] [] (mm x R Z Y o A c G g) Q) : pW ns d 51 0 [some (pm_r 20 0), u1, u2] [] (mm x R Z Y o A c G g) Q := by
  exact pW_eq 4 (fun call n => rfl) k
set_option maxRecDepth 20000 in
theorem b51_4 (hR : RS R) {v1 : Int32} {v2 : Int32}   (k1 : nI 6 ≤ v2 → pW ns d 51 32 [some (pm_r 20 0), some (pm_i v1), some (pm_i v2)] [] (mm x R Z Y o A c G g) Q) (k2 : ¬ (nI 6 ≤ v2) → pW ns d 51 10 [some (pm_r 20 0), some (pm_i v1), some (pm_i v2)] [] (mm x R Z Y o A c G g) Q) : pW ns d 51 4 [some (pm_r 20 0), some (pm_i v1), some (pm_i v2)] [] (mm x R Z Y o A c G g) Q := by
  exact pW_if 3 (c := nI 6 ≤ v2) (fun call n => rfl) k1 k2
set_option maxRecDepth 20000 in
theorem b51_32 (hR : RS R) {u0 : Option pm_V} {v1 : Int32} {u2 : Option pm_V}   (k : Q (.inl (some (pm_i v1)), (mm x R Z Y o A c G g))) : pW ns d 51 32 [u0, some (pm_i v1), u2] [] (mm x R Z Y o A c G g) Q := by
  refine pW_ret 2 (fun call n => ?_) k
  rfl
set_option maxRecDepth 20000 in
theorem b51_10 (hR : RS R) {v1 : Int32} {v2 : Int32}  {x2 : Nat} {o2 : Int64} {A2 : Nat → Nat → Nat → Int32} {c2 : Nat → Int64} {G2 : Nat → Nat → Int32} {g2 : Nat → Int64} {y : Int32} (hE : pE ns d 50 [pm_r 20 0, pm_i v2] (mm x R Z Y o A c G g) (.inl (some (pm_i y)), (mm x2 R Z Y o2 A2 c2 G2 g2))) (k : pW ns d 51 16 [some (pm_r 20 0), some (pm_i v1), some (pm_i v2)] [pm_i y, pm_i v1] (mm x2 R Z Y o2 A2 c2 G2 g2) Q) : pW ns d 51 10 [some (pm_r 20 0), some (pm_i v1), some (pm_i v2)] [] (mm x R Z Y o A c G g) Q := by
  refine pW_call (pc' := 13) (r := [pm_i v1]) (L' := [some (pm_r 20 0), some (pm_i v1), some (pm_i v2)]) 4 (fun call n => ?_) hE k
  exact Eq.trans (b := pm_g (mm x R Z Y o A c G g) 20 0 (pm_cl call 51 (pm_go call ns d 51 n) 13 50 [pm_r 20 0, pm_i v2] [pm_i v1] [some (pm_r 20 0), some (pm_i v1), some (pm_i v2)] (mm x R Z Y o A c G g))) rfl (g_ok (f := 20) (by decide) rfl)
set_option maxRecDepth 20000 in
theorem b51_16 (hR : RS R) {u1 : Option pm_V} {v2 : Int32} {vs0 : Int32} {vs1 : Int32}   (k1 : vs0 = 0 → pW ns d 51 23 [some (pm_r 20 0), u1, some (pm_i v2)] [pm_i vs1] (mm x R Z Y o A c G g) Q) (k2 : ¬ (vs0 = 0) → pW ns d 51 19 [some (pm_r 20 0), u1, some (pm_i v2)] [pm_i vs1] (mm x R Z Y o A c G g) Q) : pW ns d 51 16 [some (pm_r 20 0), u1, some (pm_i v2)] [pm_i vs0, pm_i vs1] (mm x R Z Y o A c G g) Q := by
  exact pW_if 1 (c := vs0 = 0) (fun call n => rfl) k1 k2
set_option maxRecDepth 20000 in
theorem b51_23 (hR : RS R) {u1 : Option pm_V} {v2 : Int32} {vs0 : Int32}   (k : pW ns d 51 4 [some (pm_r 20 0), some (pm_i (vs0 + (nI 0))), some (pm_i (v2 + (nI 1)))] [] (mm x R Z Y o A c G g) Q) : pW ns d 51 23 [some (pm_r 20 0), u1, some (pm_i v2)] [pm_i vs0] (mm x R Z Y o A c G g) Q := by
  exact pW_eq 5 (fun call n => rfl) k
set_option maxRecDepth 20000 in
theorem b51_19 (hR : RS R) {u1 : Option pm_V} {v2 : Int32} {vs0 : Int32}   (k : pW ns d 51 4 [some (pm_r 20 0), some (pm_i (vs0 + (nI 1))), some (pm_i (v2 + (nI 1)))] [] (mm x R Z Y o A c G g) Q) : pW ns d 51 19 [some (pm_r 20 0), u1, some (pm_i v2)] [pm_i vs0] (mm x R Z Y o A c G g) Q := by
  exact pW_eq 6 (fun call n => rfl) k
set_option maxRecDepth 20000 in
theorem t51_4 (hR : RS R) {v1 : Int32} {v2 : Int32}  (k1 : (nI 6 ≤ v2) → Q (.inl (some (pm_i v1)), (mm x R Z Y o A c G g))) (k2 : (¬ (nI 6 ≤ v2)) → pW ns d 51 10 [some (pm_r 20 0), some (pm_i v1), some (pm_i v2)] [] (mm x R Z Y o A c G g) Q) : pW ns d 51 4 [some (pm_r 20 0), some (pm_i v1), some (pm_i v2)] [] (mm x R Z Y o A c G g) Q := by
  refine b51_4 hR  (fun h1 => ?_) (fun h1 => ?_)
  · skip
    exact b51_32 hR   (k1 h1)
  · skip
    exact (k2 h1)
set_option maxRecDepth 20000 in
theorem t51_16 (hR : RS R) {u1 : Option pm_V} {v2 : Int32} {vs0 : Int32} {vs1 : Int32}  (k1 : (vs0 = 0) → pW ns d 51 4 [some (pm_r 20 0), some (pm_i (vs1 + (nI 0))), some (pm_i (v2 + (nI 1)))] [] (mm x R Z Y o A c G g) Q) (k2 : (¬ (vs0 = 0)) → pW ns d 51 4 [some (pm_r 20 0), some (pm_i (vs1 + (nI 1))), some (pm_i (v2 + (nI 1)))] [] (mm x R Z Y o A c G g) Q) : pW ns d 51 16 [some (pm_r 20 0), u1, some (pm_i v2)] [pm_i vs0, pm_i vs1] (mm x R Z Y o A c G g) Q := by
  refine b51_16 hR  (fun h1 => ?_) (fun h1 => ?_)
  · skip
    exact b51_23 hR   (k1 h1)
  · skip
    exact b51_19 hR   (k2 h1)
/-! 52 JobLayerModel.fileOf -/
set_option maxRecDepth 20000 in
theorem b52_0 (hR : RS R) {v1 : Int32} {v2 : Int32}   (k1 : v2 < 0 → pW ns d 52 9 [some (pm_r 20 0), some (pm_i v1), some (pm_i v2)] [] (mm x R Z Y o A c G g) Q) (k2 : ¬ (v2 < 0) → pW ns d 52 4 [some (pm_r 20 0), some (pm_i v1), some (pm_i v2)] [] (mm x R Z Y o A c G g) Q) : pW ns d 52 0 [some (pm_r 20 0), some (pm_i v1), some (pm_i v2)] [] (mm x R Z Y o A c G g) Q := by
  exact pW_if 2 (c := v2 < 0) (fun call n => rfl) k1 k2
set_option maxRecDepth 20000 in
theorem b52_9 (hR : RS R) {u0 : Option pm_V} {u1 : Option pm_V} {u2 : Option pm_V}   (k : Q (.inl (some (pm_i (-nI 1))), (mm x R Z Y o A c G g))) : pW ns d 52 9 [u0, u1, u2] [] (mm x R Z Y o A c G g) Q := by
  refine pW_ret 3 (fun call n => ?_) k
  rfl
set_option maxRecDepth 20000 in
theorem b52_4 (hR : RS R) {v1 : Int32} {v2 : Int32}   (k1 : v2 ≤ nI 5 → pW ns d 52 13 [some (pm_r 20 0), some (pm_i v1), some (pm_i v2)] [] (mm x R Z Y o A c G g) Q) (k2 : ¬ (v2 ≤ nI 5) → pW ns d 52 9 [some (pm_r 20 0), some (pm_i v1), some (pm_i v2)] [] (mm x R Z Y o A c G g) Q) : pW ns d 52 4 [some (pm_r 20 0), some (pm_i v1), some (pm_i v2)] [] (mm x R Z Y o A c G g) Q := by
  exact pW_if 3 (c := v2 ≤ nI 5) (fun call n => rfl) k1 k2
set_option maxRecDepth 20000 in
theorem b52_13 (hR : RS R) {v1 : Int32} {v2 : Int32} {j1 : Nat} (e1 : ((nI 6) * v1) + v2 = nI j1) (l1 : j1 < 48)  (k : Q (.inl (some (pm_i (G 32 j1))), (mm x R Z Y o A c G g))) : pW ns d 52 13 [some (pm_r 20 0), some (pm_i v1), some (pm_i v2)] [] (mm x R Z Y o A c G g) Q := by
  refine pW_eq 2 (pc' := 17) (L' := [some (pm_r 20 0), some (pm_i v1), some (pm_i v2)]) (S' := [pm_r 32 0]) (M' := (mm x R Z Y o A c G g)) (fun call n => ?_) ?_
  · refine Eq.trans (b := pm_g (mm x R Z Y o A c G g) 20 0 (pm_go call ns d 52 n 17 [some (pm_r 20 0), some (pm_i v1), some (pm_i v2)] [pm_a (R 20 0 12)] (mm x R Z Y o A c G g))) rfl ?_
    refine (g_ok (f := 20) (by decide) rfl).trans ?_
    exact (congrArg (fun z => pm_go call ns d 52 n 17 [some (pm_r 20 0), some (pm_i v1), some (pm_i v2)] [pm_a z] (mm x R Z Y o A c G g)) (rs_20_12 hR))
  refine pW_eq 6 (pc' := 24) (L' := [some (pm_r 20 0), some (pm_i v1), some (pm_i v2)]) (S' := [pm_i (G 32 j1)]) (M' := (mm x R Z Y o A c G g)) (fun call n => ?_) ?_
  · refine Eq.trans (b := pm_g (mm x R Z Y o A c G g) 32 0 (pm_ix (((nI 6) * v1) + v2) 48 (fun jx => pm_go call ns d 52 n 24 [some (pm_r 20 0), some (pm_i v1), some (pm_i v2)] [pm_i (G 32 jx)] (mm x R Z Y o A c G g)))) rfl ?_
    refine (g_ok (f := 32) (by decide) rfl).trans ?_
    refine (ix_ok (j := j1) e1 l1 (by decide)).trans ?_
    rfl
  refine pW_ret 1 (fun call n => ?_) k
  rfl
set_option maxRecDepth 20000 in
theorem t52_0 (hR : RS R) {v1 : Int32} {v2 : Int32}  (k1 : (v2 < 0) → Q (.inl (some (pm_i (-nI 1))), (mm x R Z Y o A c G g))) (k2 : (¬ (v2 < 0)) → (v2 ≤ nI 5) → pW ns d 52 13 [some (pm_r 20 0), some (pm_i v1), some (pm_i v2)] [] (mm x R Z Y o A c G g) Q) (k3 : (¬ (v2 < 0)) → (¬ (v2 ≤ nI 5)) → Q (.inl (some (pm_i (-nI 1))), (mm x R Z Y o A c G g))) : pW ns d 52 0 [some (pm_r 20 0), some (pm_i v1), some (pm_i v2)] [] (mm x R Z Y o A c G g) Q := by
  refine b52_0 hR  (fun h1 => ?_) (fun h1 => ?_)
  · skip
    exact b52_9 hR   (k1 h1)
  · skip
    refine b52_4 hR   (fun h2 => ?_) (fun h2 => ?_)
    · skip
      exact (k2 h1 h2)
    · skip
      exact b52_9 hR   (k3 h1 h2)
set_option maxRecDepth 20000 in
theorem t52_4 (hR : RS R) {v1 : Int32} {v2 : Int32}  (k1 : (v2 ≤ nI 5) → pW ns d 52 13 [some (pm_r 20 0), some (pm_i v1), some (pm_i v2)] [] (mm x R Z Y o A c G g) Q) (k2 : (¬ (v2 ≤ nI 5)) → Q (.inl (some (pm_i (-nI 1))), (mm x R Z Y o A c G g))) : pW ns d 52 4 [some (pm_r 20 0), some (pm_i v1), some (pm_i v2)] [] (mm x R Z Y o A c G g) Q := by
  refine b52_4 hR  (fun h1 => ?_) (fun h1 => ?_)
  · skip
    exact (k1 h1)
  · skip
    exact b52_9 hR   (k2 h1)
/-! 53 JobLayerModel.isParty -/
set_option maxRecDepth 20000 in
theorem b53_0 (hR : RS R) {v1 : Int32} {u2 : Option pm_V} {u3 : Option pm_V}   (k : pW ns d 53 4 [some (pm_r 20 0), some (pm_i v1), some (pm_i (nI 0)), some (pm_i (nI 0))] [] (mm x R Z Y o A c G g) Q) : pW ns d 53 0 [some (pm_r 20 0), some (pm_i v1), u2, u3] [] (mm x R Z Y o A c G g) Q := by
  exact pW_eq 4 (fun call n => rfl) k
set_option maxRecDepth 20000 in
theorem b53_4 (hR : RS R) {v1 : Int32} {v2 : Int32} {v3 : Int32}   (k1 : nI 8 ≤ v3 → pW ns d 53 44 [some (pm_r 20 0), some (pm_i v1), some (pm_i v2), some (pm_i v3)] [] (mm x R Z Y o A c G g) Q) (k2 : ¬ (nI 8 ≤ v3) → pW ns d 53 10 [some (pm_r 20 0), some (pm_i v1), some (pm_i v2), some (pm_i v3)] [] (mm x R Z Y o A c G g) Q) : pW ns d 53 4 [some (pm_r 20 0), some (pm_i v1), some (pm_i v2), some (pm_i v3)] [] (mm x R Z Y o A c G g) Q := by
  exact pW_if 3 (c := nI 8 ≤ v3) (fun call n => rfl) k1 k2
set_option maxRecDepth 20000 in
theorem b53_44 (hR : RS R) {u0 : Option pm_V} {u1 : Option pm_V} {v2 : Int32} {u3 : Option pm_V} (z1 : v2 = 0 ∨ v2 = 1)  (k : Q (.inl (some (pm_i v2)), (mm x R Z Y o A c G g))) : pW ns d 53 44 [u0, u1, some (pm_i v2), u3] [] (mm x R Z Y o A c G g) Q := by
  refine pW_ret 2 (fun call n => ?_) k
  exact Eq.trans (b := pm_bo (v2) (some (.inl (some (pm_i v2)), (mm x R Z Y o A c G g)))) rfl (bo_ok z1)
set_option maxRecDepth 20000 in
theorem b53_10 (hR : RS R) {v1 : Int32} {v2 : Int32} {v3 : Int32}   (k1 : v2 = 0 → pW ns d 53 14 [some (pm_r 20 0), some (pm_i v1), some (pm_i v2), some (pm_i v3)] [] (mm x R Z Y o A c G g) Q) (k2 : ¬ (v2 = 0) → pW ns d 53 32 [some (pm_r 20 0), some (pm_i v1), some (pm_i v2), some (pm_i v3)] [] (mm x R Z Y o A c G g) Q) : pW ns d 53 10 [some (pm_r 20 0), some (pm_i v1), some (pm_i v2), some (pm_i v3)] [] (mm x R Z Y o A c G g) Q := by
  exact pW_if 2 (c := v2 = 0) (fun call n => rfl) k1 k2
set_option maxRecDepth 20000 in
theorem b53_14 (hR : RS R) {v1 : Int32} {u2 : Option pm_V} {v3 : Int32}  {x2 : Nat} {o2 : Int64} {A2 : Nat → Nat → Nat → Int32} {c2 : Nat → Int64} {G2 : Nat → Nat → Int32} {g2 : Nat → Int64} {y : Int32} (hE : pE ns d 48 [pm_r 20 0, pm_i v3] (mm x R Z Y o A c G g) (.inl (some (pm_i y)), (mm x2 R Z Y o2 A2 c2 G2 g2))) (k : pW ns d 53 19 [some (pm_r 20 0), some (pm_i v1), u2, some (pm_i v3)] [pm_i y] (mm x2 R Z Y o2 A2 c2 G2 g2) Q) : pW ns d 53 14 [some (pm_r 20 0), some (pm_i v1), u2, some (pm_i v3)] [] (mm x R Z Y o A c G g) Q := by
  refine pW_call (pc' := 16) (r := []) (L' := [some (pm_r 20 0), some (pm_i v1), u2, some (pm_i v3)]) 3 (fun call n => ?_) hE k
  exact Eq.trans (b := pm_g (mm x R Z Y o A c G g) 20 0 (pm_cl call 53 (pm_go call ns d 53 n) 16 48 [pm_r 20 0, pm_i v3] [] [some (pm_r 20 0), some (pm_i v1), u2, some (pm_i v3)] (mm x R Z Y o A c G g))) rfl (g_ok (f := 20) (by decide) rfl)
set_option maxRecDepth 20000 in
theorem b53_32 (hR : RS R) {v1 : Int32} {u2 : Option pm_V} {v3 : Int32}   (k : pW ns d 53 4 [some (pm_r 20 0), some (pm_i v1), some (pm_i (nI 1)), some (pm_i (v3 + (nI 1)))] [] (mm x R Z Y o A c G g) Q) : pW ns d 53 32 [some (pm_r 20 0), some (pm_i v1), u2, some (pm_i v3)] [] (mm x R Z Y o A c G g) Q := by
  exact pW_eq 5 (fun call n => rfl) k
set_option maxRecDepth 20000 in
theorem b53_19 (hR : RS R) {v1 : Int32} {u2 : Option pm_V} {v3 : Int32} {vs0 : Int32}   (k1 : vs0 = 0 → pW ns d 53 36 [some (pm_r 20 0), some (pm_i v1), u2, some (pm_i v3)] [] (mm x R Z Y o A c G g) Q) (k2 : ¬ (vs0 = 0) → pW ns d 53 22 [some (pm_r 20 0), some (pm_i v1), u2, some (pm_i v3)] [] (mm x R Z Y o A c G g) Q) : pW ns d 53 19 [some (pm_r 20 0), some (pm_i v1), u2, some (pm_i v3)] [pm_i vs0] (mm x R Z Y o A c G g) Q := by
  exact pW_if 1 (c := vs0 = 0) (fun call n => rfl) k1 k2
set_option maxRecDepth 20000 in
theorem b53_36 (hR : RS R) {v1 : Int32} {u2 : Option pm_V} {v3 : Int32}   (k : pW ns d 53 4 [some (pm_r 20 0), some (pm_i v1), some (pm_i (nI 0)), some (pm_i (v3 + (nI 1)))] [] (mm x R Z Y o A c G g) Q) : pW ns d 53 36 [some (pm_r 20 0), some (pm_i v1), u2, some (pm_i v3)] [] (mm x R Z Y o A c G g) Q := by
  exact pW_eq 4 (fun call n => rfl) k
set_option maxRecDepth 20000 in
theorem b53_22 (hR : RS R) {v1 : Int32} {u2 : Option pm_V} {v3 : Int32} {j1 : Nat} (e1 : v3 = nI j1) (l1 : j1 < 8)  (k1 : G 23 j1 = v1 → pW ns d 53 32 [some (pm_r 20 0), some (pm_i v1), u2, some (pm_i v3)] [] (mm x R Z Y o A c G g) Q) (k2 : ¬ (G 23 j1 = v1) → pW ns d 53 36 [some (pm_r 20 0), some (pm_i v1), u2, some (pm_i v3)] [] (mm x R Z Y o A c G g) Q) : pW ns d 53 22 [some (pm_r 20 0), some (pm_i v1), u2, some (pm_i v3)] [] (mm x R Z Y o A c G g) Q := by
  refine pW_eq 2 (pc' := 26) (L' := [some (pm_r 20 0), some (pm_i v1), u2, some (pm_i v3)]) (S' := [pm_r 23 0]) (M' := (mm x R Z Y o A c G g)) (fun call n => ?_) ?_
  · refine Eq.trans (b := pm_g (mm x R Z Y o A c G g) 20 0 (pm_go call ns d 53 n 26 [some (pm_r 20 0), some (pm_i v1), u2, some (pm_i v3)] [pm_a (R 20 0 3)] (mm x R Z Y o A c G g))) rfl ?_
    refine (g_ok (f := 20) (by decide) rfl).trans ?_
    exact (congrArg (fun z => pm_go call ns d 53 n 26 [some (pm_r 20 0), some (pm_i v1), u2, some (pm_i v3)] [pm_a z] (mm x R Z Y o A c G g)) (rs_20_3 hR))
  refine pW_eq 2 (pc' := 28) (L' := [some (pm_r 20 0), some (pm_i v1), u2, some (pm_i v3)]) (S' := [pm_i (G 23 j1)]) (M' := (mm x R Z Y o A c G g)) (fun call n => ?_) ?_
  · refine Eq.trans (b := pm_g (mm x R Z Y o A c G g) 23 0 (pm_ix (v3) 8 (fun jx => pm_go call ns d 53 n 28 [some (pm_r 20 0), some (pm_i v1), u2, some (pm_i v3)] [pm_i (G 23 jx)] (mm x R Z Y o A c G g)))) rfl ?_
    refine (g_ok (f := 23) (by decide) rfl).trans ?_
    refine (ix_ok (j := j1) e1 l1 (by decide)).trans ?_
    rfl
  exact pW_if 2 (c := G 23 j1 = v1) (fun call n => rfl) k1 k2
set_option maxRecDepth 20000 in
theorem t53_4 (hR : RS R) {v1 : Int32} {v2 : Int32} {v3 : Int32}  (k1 : (nI 8 ≤ v3) → pW ns d 53 44 [some (pm_r 20 0), some (pm_i v1), some (pm_i v2), some (pm_i v3)] [] (mm x R Z Y o A c G g) Q) (k2 : (¬ (nI 8 ≤ v3)) → (v2 = 0) → pW ns d 53 14 [some (pm_r 20 0), some (pm_i v1), some (pm_i v2), some (pm_i v3)] [] (mm x R Z Y o A c G g) Q) (k3 : (¬ (nI 8 ≤ v3)) → (¬ (v2 = 0)) → pW ns d 53 4 [some (pm_r 20 0), some (pm_i v1), some (pm_i (nI 1)), some (pm_i (v3 + (nI 1)))] [] (mm x R Z Y o A c G g) Q) : pW ns d 53 4 [some (pm_r 20 0), some (pm_i v1), some (pm_i v2), some (pm_i v3)] [] (mm x R Z Y o A c G g) Q := by
  refine b53_4 hR  (fun h1 => ?_) (fun h1 => ?_)
  · skip
    exact (k1 h1)
  · skip
    refine b53_10 hR   (fun h2 => ?_) (fun h2 => ?_)
    · skip
      exact (k2 h1 h2)
    · skip
      exact b53_32 hR   (k3 h1 h2)
set_option maxRecDepth 20000 in
theorem t53_10 (hR : RS R) {v1 : Int32} {v2 : Int32} {v3 : Int32}  (k1 : (v2 = 0) → pW ns d 53 14 [some (pm_r 20 0), some (pm_i v1), some (pm_i v2), some (pm_i v3)] [] (mm x R Z Y o A c G g) Q) (k2 : (¬ (v2 = 0)) → pW ns d 53 4 [some (pm_r 20 0), some (pm_i v1), some (pm_i (nI 1)), some (pm_i (v3 + (nI 1)))] [] (mm x R Z Y o A c G g) Q) : pW ns d 53 10 [some (pm_r 20 0), some (pm_i v1), some (pm_i v2), some (pm_i v3)] [] (mm x R Z Y o A c G g) Q := by
  refine b53_10 hR  (fun h1 => ?_) (fun h1 => ?_)
  · skip
    exact (k1 h1)
  · skip
    exact b53_32 hR   (k2 h1)
set_option maxRecDepth 20000 in
theorem t53_19 (hR : RS R) {v1 : Int32} {u2 : Option pm_V} {v3 : Int32} {vs0 : Int32}  (k1 : (vs0 = 0) → pW ns d 53 4 [some (pm_r 20 0), some (pm_i v1), some (pm_i (nI 0)), some (pm_i (v3 + (nI 1)))] [] (mm x R Z Y o A c G g) Q) (k2 : (¬ (vs0 = 0)) → pW ns d 53 22 [some (pm_r 20 0), some (pm_i v1), u2, some (pm_i v3)] [] (mm x R Z Y o A c G g) Q) : pW ns d 53 19 [some (pm_r 20 0), some (pm_i v1), u2, some (pm_i v3)] [pm_i vs0] (mm x R Z Y o A c G g) Q := by
  refine b53_19 hR  (fun h1 => ?_) (fun h1 => ?_)
  · skip
    exact b53_36 hR   (k1 h1)
  · skip
    exact (k2 h1)
set_option maxRecDepth 20000 in
theorem t53_22 (hR : RS R) {v1 : Int32} {u2 : Option pm_V} {v3 : Int32} {j1 : Nat} (e1 : v3 = nI j1) (l1 : j1 < 8) (k1 : (G 23 j1 = v1) → pW ns d 53 4 [some (pm_r 20 0), some (pm_i v1), some (pm_i (nI 1)), some (pm_i (v3 + (nI 1)))] [] (mm x R Z Y o A c G g) Q) (k2 : (¬ (G 23 j1 = v1)) → pW ns d 53 4 [some (pm_r 20 0), some (pm_i v1), some (pm_i (nI 0)), some (pm_i (v3 + (nI 1)))] [] (mm x R Z Y o A c G g) Q) : pW ns d 53 22 [some (pm_r 20 0), some (pm_i v1), u2, some (pm_i v3)] [] (mm x R Z Y o A c G g) Q := by
  refine b53_22 hR e1 l1 (fun h1 => ?_) (fun h1 => ?_)
  · skip
    exact b53_32 hR   (k1 h1)
  · skip
    exact b53_36 hR   (k2 h1)
/-! 54 JobLayerModel.isOrphaned -/
set_option maxRecDepth 20000 in
theorem b54_0 (hR : RS R) {v1 : Int32} {u2 : Option pm_V} {u3 : Option pm_V} {u4 : Option pm_V}   (k : pW ns d 54 4 [some (pm_r 20 0), some (pm_i v1), some (pm_i (nI 1)), some (pm_i (nI 1)), u4] [] (mm x R Z Y o A c G g) Q) : pW ns d 54 0 [some (pm_r 20 0), some (pm_i v1), u2, u3, u4] [] (mm x R Z Y o A c G g) Q := by
  exact pW_eq 4 (fun call n => rfl) k
set_option maxRecDepth 20000 in
theorem b54_4 (hR : RS R) {v1 : Int32} {v2 : Int32} {v3 : Int32} {u4 : Option pm_V}   (k1 : nI 8 ≤ v3 → pW ns d 54 84 [some (pm_r 20 0), some (pm_i v1), some (pm_i v2), some (pm_i v3), u4] [] (mm x R Z Y o A c G g) Q) (k2 : ¬ (nI 8 ≤ v3) → pW ns d 54 10 [some (pm_r 20 0), some (pm_i v1), some (pm_i v2), some (pm_i v3), u4] [] (mm x R Z Y o A c G g) Q) : pW ns d 54 4 [some (pm_r 20 0), some (pm_i v1), some (pm_i v2), some (pm_i v3), u4] [] (mm x R Z Y o A c G g) Q := by
  exact pW_if 3 (c := nI 8 ≤ v3) (fun call n => rfl) k1 k2
set_option maxRecDepth 20000 in
theorem b54_84 (hR : RS R) {u0 : Option pm_V} {u1 : Option pm_V} {v2 : Int32} {u3 : Option pm_V} {u4 : Option pm_V} (z1 : v2 = 0 ∨ v2 = 1)  (k : Q (.inl (some (pm_i v2)), (mm x R Z Y o A c G g))) : pW ns d 54 84 [u0, u1, some (pm_i v2), u3, u4] [] (mm x R Z Y o A c G g) Q := by
  refine pW_ret 2 (fun call n => ?_) k
  exact Eq.trans (b := pm_bo (v2) (some (.inl (some (pm_i v2)), (mm x R Z Y o A c G g)))) rfl (bo_ok z1)
set_option maxRecDepth 20000 in
theorem b54_10 (hR : RS R) {v1 : Int32} {v2 : Int32} {v3 : Int32} {u4 : Option pm_V}  {x2 : Nat} {o2 : Int64} {A2 : Nat → Nat → Nat → Int32} {c2 : Nat → Int64} {G2 : Nat → Nat → Int32} {g2 : Nat → Int64} {y : Int32} (hE : pE ns d 48 [pm_r 20 0, pm_i v3] (mm x R Z Y o A c G g) (.inl (some (pm_i y)), (mm x2 R Z Y o2 A2 c2 G2 g2))) (k : pW ns d 54 15 [some (pm_r 20 0), some (pm_i v1), some (pm_i v2), some (pm_i v3), u4] [pm_i y] (mm x2 R Z Y o2 A2 c2 G2 g2) Q) : pW ns d 54 10 [some (pm_r 20 0), some (pm_i v1), some (pm_i v2), some (pm_i v3), u4] [] (mm x R Z Y o A c G g) Q := by
  refine pW_call (pc' := 12) (r := []) (L' := [some (pm_r 20 0), some (pm_i v1), some (pm_i v2), some (pm_i v3), u4]) 3 (fun call n => ?_) hE k
  exact Eq.trans (b := pm_g (mm x R Z Y o A c G g) 20 0 (pm_cl call 54 (pm_go call ns d 54 n) 12 48 [pm_r 20 0, pm_i v3] [] [some (pm_r 20 0), some (pm_i v1), some (pm_i v2), some (pm_i v3), u4] (mm x R Z Y o A c G g))) rfl (g_ok (f := 20) (by decide) rfl)
set_option maxRecDepth 20000 in
theorem b54_15 (hR : RS R) {v1 : Int32} {v2 : Int32} {v3 : Int32} {u4 : Option pm_V} {vs0 : Int32}   (k1 : vs0 = 0 → pW ns d 54 60 [some (pm_r 20 0), some (pm_i v1), some (pm_i v2), some (pm_i v3), u4] [] (mm x R Z Y o A c G g) Q) (k2 : ¬ (vs0 = 0) → pW ns d 54 18 [some (pm_r 20 0), some (pm_i v1), some (pm_i v2), some (pm_i v3), u4] [] (mm x R Z Y o A c G g) Q) : pW ns d 54 15 [some (pm_r 20 0), some (pm_i v1), some (pm_i v2), some (pm_i v3), u4] [pm_i vs0] (mm x R Z Y o A c G g) Q := by
  exact pW_if 1 (c := vs0 = 0) (fun call n => rfl) k1 k2
set_option maxRecDepth 20000 in
theorem b54_60 (hR : RS R) {v1 : Int32} {v2 : Int32} {v3 : Int32} {u4 : Option pm_V}   (k1 : v2 = 0 → pW ns d 54 76 [some (pm_r 20 0), some (pm_i v1), some (pm_i v2), some (pm_i v3), some (pm_i (nI 0))] [] (mm x R Z Y o A c G g) Q) (k2 : ¬ (v2 = 0) → pW ns d 54 67 [some (pm_r 20 0), some (pm_i v1), some (pm_i v2), some (pm_i v3), some (pm_i (nI 0))] [] (mm x R Z Y o A c G g) Q) : pW ns d 54 60 [some (pm_r 20 0), some (pm_i v1), some (pm_i v2), some (pm_i v3), u4] [] (mm x R Z Y o A c G g) Q := by
  exact pW_if 4 (c := v2 = 0) (fun call n => rfl) k1 k2
set_option maxRecDepth 20000 in
theorem b54_18 (hR : RS R) {v1 : Int32} {v2 : Int32} {v3 : Int32} {u4 : Option pm_V} {j1 : Nat} (e1 : v3 = nI j1) (l1 : j1 < 8)  (k1 : G 23 j1 = v1 → pW ns d 54 28 [some (pm_r 20 0), some (pm_i v1), some (pm_i v2), some (pm_i v3), u4] [] (mm x R Z Y o A c G g) Q) (k2 : ¬ (G 23 j1 = v1) → pW ns d 54 60 [some (pm_r 20 0), some (pm_i v1), some (pm_i v2), some (pm_i v3), u4] [] (mm x R Z Y o A c G g) Q) : pW ns d 54 18 [some (pm_r 20 0), some (pm_i v1), some (pm_i v2), some (pm_i v3), u4] [] (mm x R Z Y o A c G g) Q := by
  refine pW_eq 2 (pc' := 22) (L' := [some (pm_r 20 0), some (pm_i v1), some (pm_i v2), some (pm_i v3), u4]) (S' := [pm_r 23 0]) (M' := (mm x R Z Y o A c G g)) (fun call n => ?_) ?_
  · refine Eq.trans (b := pm_g (mm x R Z Y o A c G g) 20 0 (pm_go call ns d 54 n 22 [some (pm_r 20 0), some (pm_i v1), some (pm_i v2), some (pm_i v3), u4] [pm_a (R 20 0 3)] (mm x R Z Y o A c G g))) rfl ?_
    refine (g_ok (f := 20) (by decide) rfl).trans ?_
    exact (congrArg (fun z => pm_go call ns d 54 n 22 [some (pm_r 20 0), some (pm_i v1), some (pm_i v2), some (pm_i v3), u4] [pm_a z] (mm x R Z Y o A c G g)) (rs_20_3 hR))
  refine pW_eq 2 (pc' := 24) (L' := [some (pm_r 20 0), some (pm_i v1), some (pm_i v2), some (pm_i v3), u4]) (S' := [pm_i (G 23 j1)]) (M' := (mm x R Z Y o A c G g)) (fun call n => ?_) ?_
  · refine Eq.trans (b := pm_g (mm x R Z Y o A c G g) 23 0 (pm_ix (v3) 8 (fun jx => pm_go call ns d 54 n 24 [some (pm_r 20 0), some (pm_i v1), some (pm_i v2), some (pm_i v3), u4] [pm_i (G 23 jx)] (mm x R Z Y o A c G g)))) rfl ?_
    refine (g_ok (f := 23) (by decide) rfl).trans ?_
    refine (ix_ok (j := j1) e1 l1 (by decide)).trans ?_
    rfl
  exact pW_if 2 (c := G 23 j1 = v1) (fun call n => rfl) k1 k2
set_option maxRecDepth 20000 in
theorem b54_76 (hR : RS R) {v1 : Int32} {u2 : Option pm_V} {v3 : Int32} {u4 : Option pm_V}   (k : pW ns d 54 4 [some (pm_r 20 0), some (pm_i v1), some (pm_i (nI 0)), some (pm_i (v3 + (nI 1))), u4] [] (mm x R Z Y o A c G g) Q) : pW ns d 54 76 [some (pm_r 20 0), some (pm_i v1), u2, some (pm_i v3), u4] [] (mm x R Z Y o A c G g) Q := by
  exact pW_eq 4 (fun call n => rfl) k
set_option maxRecDepth 20000 in
theorem b54_67 (hR : RS R) {v1 : Int32} {u2 : Option pm_V} {v3 : Int32} {v4 : Int32}   (k1 : v4 = 0 → pW ns d 54 72 [some (pm_r 20 0), some (pm_i v1), u2, some (pm_i v3), some (pm_i v4)] [] (mm x R Z Y o A c G g) Q) (k2 : ¬ (v4 = 0) → pW ns d 54 76 [some (pm_r 20 0), some (pm_i v1), u2, some (pm_i v3), some (pm_i v4)] [] (mm x R Z Y o A c G g) Q) : pW ns d 54 67 [some (pm_r 20 0), some (pm_i v1), u2, some (pm_i v3), some (pm_i v4)] [] (mm x R Z Y o A c G g) Q := by
  exact pW_if 2 (c := v4 = 0) (fun call n => rfl) k1 k2
set_option maxRecDepth 20000 in
theorem b54_28 (hR : RS R) {v1 : Int32} {v2 : Int32} {v3 : Int32} {u4 : Option pm_V} {j1 : Nat} (e1 : v3 = nI j1) (l1 : j1 < 8) {x2 : Nat} {o2 : Int64} {A2 : Nat → Nat → Nat → Int32} {c2 : Nat → Int64} {G2 : Nat → Nat → Int32} {g2 : Nat → Int64} {y : Int32} (hE : pE ns d 48 [pm_r 20 0, pm_i (G 22 j1)] (mm x R Z Y o A c G g) (.inl (some (pm_i y)), (mm x2 R Z Y o2 A2 c2 G2 g2))) (k : pW ns d 54 38 [some (pm_r 20 0), some (pm_i v1), some (pm_i v2), some (pm_i v3), u4] [pm_i y] (mm x2 R Z Y o2 A2 c2 G2 g2) Q) : pW ns d 54 28 [some (pm_r 20 0), some (pm_i v1), some (pm_i v2), some (pm_i v3), u4] [] (mm x R Z Y o A c G g) Q := by
  refine pW_eq 3 (pc' := 33) (L' := [some (pm_r 20 0), some (pm_i v1), some (pm_i v2), some (pm_i v3), u4]) (S' := [pm_r 22 0, pm_r 20 0]) (M' := (mm x R Z Y o A c G g)) (fun call n => ?_) ?_
  · refine Eq.trans (b := pm_g (mm x R Z Y o A c G g) 20 0 (pm_go call ns d 54 n 33 [some (pm_r 20 0), some (pm_i v1), some (pm_i v2), some (pm_i v3), u4] [pm_a (R 20 0 2), pm_r 20 0] (mm x R Z Y o A c G g))) rfl ?_
    refine (g_ok (f := 20) (by decide) rfl).trans ?_
    exact (congrArg (fun z => pm_go call ns d 54 n 33 [some (pm_r 20 0), some (pm_i v1), some (pm_i v2), some (pm_i v3), u4] [pm_a z, pm_r 20 0] (mm x R Z Y o A c G g)) (rs_20_2 hR))
  refine pW_eq 2 (pc' := 35) (L' := [some (pm_r 20 0), some (pm_i v1), some (pm_i v2), some (pm_i v3), u4]) (S' := [pm_i (G 22 j1), pm_r 20 0]) (M' := (mm x R Z Y o A c G g)) (fun call n => ?_) ?_
  · refine Eq.trans (b := pm_g (mm x R Z Y o A c G g) 22 0 (pm_ix (v3) 8 (fun jx => pm_go call ns d 54 n 35 [some (pm_r 20 0), some (pm_i v1), some (pm_i v2), some (pm_i v3), u4] [pm_i (G 22 jx), pm_r 20 0] (mm x R Z Y o A c G g)))) rfl ?_
    refine (g_ok (f := 22) (by decide) rfl).trans ?_
    refine (ix_ok (j := j1) e1 l1 (by decide)).trans ?_
    rfl
  refine pW_call (pc' := 35) (r := []) (L' := [some (pm_r 20 0), some (pm_i v1), some (pm_i v2), some (pm_i v3), u4]) 1 (fun call n => ?_) hE k
  exact Eq.trans (b := pm_g (mm x R Z Y o A c G g) 20 0 (pm_cl call 54 (pm_go call ns d 54 n) 35 48 [pm_r 20 0, pm_i (G 22 j1)] [] [some (pm_r 20 0), some (pm_i v1), some (pm_i v2), some (pm_i v3), u4] (mm x R Z Y o A c G g))) rfl (g_ok (f := 20) (by decide) rfl)
set_option maxRecDepth 20000 in
theorem b54_72 (hR : RS R) {v1 : Int32} {u2 : Option pm_V} {v3 : Int32} {u4 : Option pm_V}   (k : pW ns d 54 4 [some (pm_r 20 0), some (pm_i v1), some (pm_i (nI 1)), some (pm_i (v3 + (nI 1))), u4] [] (mm x R Z Y o A c G g) Q) : pW ns d 54 72 [some (pm_r 20 0), some (pm_i v1), u2, some (pm_i v3), u4] [] (mm x R Z Y o A c G g) Q := by
  exact pW_eq 5 (fun call n => rfl) k
set_option maxRecDepth 20000 in
theorem b54_38 (hR : RS R) {v1 : Int32} {v2 : Int32} {v3 : Int32} {u4 : Option pm_V} {vs0 : Int32}   (k1 : vs0 = 0 → pW ns d 54 60 [some (pm_r 20 0), some (pm_i v1), some (pm_i v2), some (pm_i v3), u4] [] (mm x R Z Y o A c G g) Q) (k2 : ¬ (vs0 = 0) → pW ns d 54 41 [some (pm_r 20 0), some (pm_i v1), some (pm_i v2), some (pm_i v3), u4] [] (mm x R Z Y o A c G g) Q) : pW ns d 54 38 [some (pm_r 20 0), some (pm_i v1), some (pm_i v2), some (pm_i v3), u4] [pm_i vs0] (mm x R Z Y o A c G g) Q := by
  exact pW_if 1 (c := vs0 = 0) (fun call n => rfl) k1 k2
set_option maxRecDepth 20000 in
theorem b54_41 (hR : RS R) {v1 : Int32} {v2 : Int32} {v3 : Int32} {u4 : Option pm_V} {j1 : Nat} {j2 : Nat} (e1 : v3 = nI j1) (l1 : j1 < 8) (e2 : G 22 j1 = nI j2) (l2 : j2 < 8)  (k1 : G 23 j2 = v1 → pW ns d 54 60 [some (pm_r 20 0), some (pm_i v1), some (pm_i v2), some (pm_i v3), u4] [] (mm x R Z Y o A c G g) Q) (k2 : ¬ (G 23 j2 = v1) → pW ns d 54 56 [some (pm_r 20 0), some (pm_i v1), some (pm_i v2), some (pm_i v3), u4] [] (mm x R Z Y o A c G g) Q) : pW ns d 54 41 [some (pm_r 20 0), some (pm_i v1), some (pm_i v2), some (pm_i v3), u4] [] (mm x R Z Y o A c G g) Q := by
  refine pW_eq 2 (pc' := 45) (L' := [some (pm_r 20 0), some (pm_i v1), some (pm_i v2), some (pm_i v3), u4]) (S' := [pm_r 23 0]) (M' := (mm x R Z Y o A c G g)) (fun call n => ?_) ?_
  · refine Eq.trans (b := pm_g (mm x R Z Y o A c G g) 20 0 (pm_go call ns d 54 n 45 [some (pm_r 20 0), some (pm_i v1), some (pm_i v2), some (pm_i v3), u4] [pm_a (R 20 0 3)] (mm x R Z Y o A c G g))) rfl ?_
    refine (g_ok (f := 20) (by decide) rfl).trans ?_
    exact (congrArg (fun z => pm_go call ns d 54 n 45 [some (pm_r 20 0), some (pm_i v1), some (pm_i v2), some (pm_i v3), u4] [pm_a z] (mm x R Z Y o A c G g)) (rs_20_3 hR))
  refine pW_eq 2 (pc' := 49) (L' := [some (pm_r 20 0), some (pm_i v1), some (pm_i v2), some (pm_i v3), u4]) (S' := [pm_r 22 0, pm_r 23 0]) (M' := (mm x R Z Y o A c G g)) (fun call n => ?_) ?_
  · refine Eq.trans (b := pm_g (mm x R Z Y o A c G g) 20 0 (pm_go call ns d 54 n 49 [some (pm_r 20 0), some (pm_i v1), some (pm_i v2), some (pm_i v3), u4] [pm_a (R 20 0 2), pm_r 23 0] (mm x R Z Y o A c G g))) rfl ?_
    refine (g_ok (f := 20) (by decide) rfl).trans ?_
    exact (congrArg (fun z => pm_go call ns d 54 n 49 [some (pm_r 20 0), some (pm_i v1), some (pm_i v2), some (pm_i v3), u4] [pm_a z, pm_r 23 0] (mm x R Z Y o A c G g)) (rs_20_2 hR))
  refine pW_eq 2 (pc' := 51) (L' := [some (pm_r 20 0), some (pm_i v1), some (pm_i v2), some (pm_i v3), u4]) (S' := [pm_i (G 22 j1), pm_r 23 0]) (M' := (mm x R Z Y o A c G g)) (fun call n => ?_) ?_
  · refine Eq.trans (b := pm_g (mm x R Z Y o A c G g) 22 0 (pm_ix (v3) 8 (fun jx => pm_go call ns d 54 n 51 [some (pm_r 20 0), some (pm_i v1), some (pm_i v2), some (pm_i v3), u4] [pm_i (G 22 jx), pm_r 23 0] (mm x R Z Y o A c G g)))) rfl ?_
    refine (g_ok (f := 22) (by decide) rfl).trans ?_
    refine (ix_ok (j := j1) e1 l1 (by decide)).trans ?_
    rfl
  refine pW_eq 1 (pc' := 52) (L' := [some (pm_r 20 0), some (pm_i v1), some (pm_i v2), some (pm_i v3), u4]) (S' := [pm_i (G 23 j2)]) (M' := (mm x R Z Y o A c G g)) (fun call n => ?_) ?_
  · refine Eq.trans (b := pm_g (mm x R Z Y o A c G g) 23 0 (pm_ix (G 22 j1) 8 (fun jx => pm_go call ns d 54 n 52 [some (pm_r 20 0), some (pm_i v1), some (pm_i v2), some (pm_i v3), u4] [pm_i (G 23 jx)] (mm x R Z Y o A c G g)))) rfl ?_
    refine (g_ok (f := 23) (by decide) rfl).trans ?_
    refine (ix_ok (j := j2) e2 l2 (by decide)).trans ?_
    rfl
  exact pW_if 2 (c := G 23 j2 = v1) (fun call n => rfl) k1 k2
set_option maxRecDepth 20000 in
theorem b54_56 (hR : RS R) {v1 : Int32} {v2 : Int32} {v3 : Int32} {u4 : Option pm_V}   (k1 : v2 = 0 → pW ns d 54 76 [some (pm_r 20 0), some (pm_i v1), some (pm_i v2), some (pm_i v3), some (pm_i (nI 1))] [] (mm x R Z Y o A c G g) Q) (k2 : ¬ (v2 = 0) → pW ns d 54 67 [some (pm_r 20 0), some (pm_i v1), some (pm_i v2), some (pm_i v3), some (pm_i (nI 1))] [] (mm x R Z Y o A c G g) Q) : pW ns d 54 56 [some (pm_r 20 0), some (pm_i v1), some (pm_i v2), some (pm_i v3), u4] [] (mm x R Z Y o A c G g) Q := by
  exact pW_if 5 (c := v2 = 0) (fun call n => rfl) k1 k2
set_option maxRecDepth 20000 in
theorem t54_4 (hR : RS R) {v1 : Int32} {v2 : Int32} {v3 : Int32} {u4 : Option pm_V}  (k1 : (nI 8 ≤ v3) → pW ns d 54 84 [some (pm_r 20 0), some (pm_i v1), some (pm_i v2), some (pm_i v3), u4] [] (mm x R Z Y o A c G g) Q) (k2 : (¬ (nI 8 ≤ v3)) → pW ns d 54 10 [some (pm_r 20 0), some (pm_i v1), some (pm_i v2), some (pm_i v3), u4] [] (mm x R Z Y o A c G g) Q) : pW ns d 54 4 [some (pm_r 20 0), some (pm_i v1), some (pm_i v2), some (pm_i v3), u4] [] (mm x R Z Y o A c G g) Q := by
  refine b54_4 hR  (fun h1 => ?_) (fun h1 => ?_)
  · skip
    exact (k1 h1)
  · skip
    exact (k2 h1)
set_option maxRecDepth 20000 in
theorem t54_15 (hR : RS R) {v1 : Int32} {v2 : Int32} {v3 : Int32} {u4 : Option pm_V} {vs0 : Int32}  (k1 : (vs0 = 0) → (v2 = 0) → pW ns d 54 4 [some (pm_r 20 0), some (pm_i v1), some (pm_i (nI 0)), some (pm_i (v3 + (nI 1))), some (pm_i (nI 0))] [] (mm x R Z Y o A c G g) Q) (k2 : (vs0 = 0) → (¬ (v2 = 0)) → pW ns d 54 4 [some (pm_r 20 0), some (pm_i v1), some (pm_i (nI 1)), some (pm_i (v3 + (nI 1))), some (pm_i (nI 0))] [] (mm x R Z Y o A c G g) Q) (k3 : (¬ (vs0 = 0)) → pW ns d 54 18 [some (pm_r 20 0), some (pm_i v1), some (pm_i v2), some (pm_i v3), u4] [] (mm x R Z Y o A c G g) Q) : pW ns d 54 15 [some (pm_r 20 0), some (pm_i v1), some (pm_i v2), some (pm_i v3), u4] [pm_i vs0] (mm x R Z Y o A c G g) Q := by
  refine b54_15 hR  (fun h1 => ?_) (fun h1 => ?_)
  · skip
    refine b54_60 hR   (fun h2 => ?_) (fun h2 => ?_)
    · skip
      exact b54_76 hR   (k1 h1 h2)
    · skip
      refine b54_67 hR   (fun h3 => ?_) (fun h3 => ?_)
      · skip
        exact b54_72 hR   (k2 h1 h2)
      · exact absurd h3 (by decide)
  · skip
    exact (k3 h1)
set_option maxRecDepth 20000 in
theorem t54_60 (hR : RS R) {v1 : Int32} {v2 : Int32} {v3 : Int32} {u4 : Option pm_V}  (k1 : (v2 = 0) → pW ns d 54 4 [some (pm_r 20 0), some (pm_i v1), some (pm_i (nI 0)), some (pm_i (v3 + (nI 1))), some (pm_i (nI 0))] [] (mm x R Z Y o A c G g) Q) (k2 : (¬ (v2 = 0)) → pW ns d 54 4 [some (pm_r 20 0), some (pm_i v1), some (pm_i (nI 1)), some (pm_i (v3 + (nI 1))), some (pm_i (nI 0))] [] (mm x R Z Y o A c G g) Q) : pW ns d 54 60 [some (pm_r 20 0), some (pm_i v1), some (pm_i v2), some (pm_i v3), u4] [] (mm x R Z Y o A c G g) Q := by
  refine b54_60 hR  (fun h1 => ?_) (fun h1 => ?_)
  · skip
    exact b54_76 hR   (k1 h1)
  · skip
    refine b54_67 hR   (fun h2 => ?_) (fun h2 => ?_)
    · skip
      exact b54_72 hR   (k2 h1)
    · exact absurd h2 (by decide)
set_option maxRecDepth 20000 in
theorem t54_18 (hR : RS R) {v1 : Int32} {v2 : Int32} {v3 : Int32} {u4 : Option pm_V} {j1 : Nat} (e1 : v3 = nI j1) (l1 : j1 < 8) (k1 : (G 23 j1 = v1) → pW ns d 54 28 [some (pm_r 20 0), some (pm_i v1), some (pm_i v2), some (pm_i v3), u4] [] (mm x R Z Y o A c G g) Q) (k2 : (¬ (G 23 j1 = v1)) → (v2 = 0) → pW ns d 54 4 [some (pm_r 20 0), some (pm_i v1), some (pm_i (nI 0)), some (pm_i (v3 + (nI 1))), some (pm_i (nI 0))] [] (mm x R Z Y o A c G g) Q) (k3 : (¬ (G 23 j1 = v1)) → (¬ (v2 = 0)) → pW ns d 54 4 [some (pm_r 20 0), some (pm_i v1), some (pm_i (nI 1)), some (pm_i (v3 + (nI 1))), some (pm_i (nI 0))] [] (mm x R Z Y o A c G g) Q) : pW ns d 54 18 [some (pm_r 20 0), some (pm_i v1), some (pm_i v2), some (pm_i v3), u4] [] (mm x R Z Y o A c G g) Q := by
  refine b54_18 hR e1 l1 (fun h1 => ?_) (fun h1 => ?_)
  · skip
    exact (k1 h1)
  · skip
    refine b54_60 hR   (fun h2 => ?_) (fun h2 => ?_)
    · skip
      exact b54_76 hR   (k2 h1 h2)
    · skip
      refine b54_67 hR   (fun h3 => ?_) (fun h3 => ?_)
      · skip
        exact b54_72 hR   (k3 h1 h2)
      · exact absurd h3 (by decide)
set_option maxRecDepth 20000 in
theorem t54_67 (hR : RS R) {v1 : Int32} {u2 : Option pm_V} {v3 : Int32} {v4 : Int32}  (k1 : (v4 = 0) → pW ns d 54 4 [some (pm_r 20 0), some (pm_i v1), some (pm_i (nI 1)), some (pm_i (v3 + (nI 1))), some (pm_i v4)] [] (mm x R Z Y o A c G g) Q) (k2 : (¬ (v4 = 0)) → pW ns d 54 4 [some (pm_r 20 0), some (pm_i v1), some (pm_i (nI 0)), some (pm_i (v3 + (nI 1))), some (pm_i v4)] [] (mm x R Z Y o A c G g) Q) : pW ns d 54 67 [some (pm_r 20 0), some (pm_i v1), u2, some (pm_i v3), some (pm_i v4)] [] (mm x R Z Y o A c G g) Q := by
  refine b54_67 hR  (fun h1 => ?_) (fun h1 => ?_)
  · skip
    exact b54_72 hR   (k1 h1)
  · skip
    exact b54_76 hR   (k2 h1)
set_option maxRecDepth 20000 in
theorem t54_38 (hR : RS R) {v1 : Int32} {v2 : Int32} {v3 : Int32} {u4 : Option pm_V} {vs0 : Int32}  (k1 : (vs0 = 0) → (v2 = 0) → pW ns d 54 4 [some (pm_r 20 0), some (pm_i v1), some (pm_i (nI 0)), some (pm_i (v3 + (nI 1))), some (pm_i (nI 0))] [] (mm x R Z Y o A c G g) Q) (k2 : (vs0 = 0) → (¬ (v2 = 0)) → pW ns d 54 4 [some (pm_r 20 0), some (pm_i v1), some (pm_i (nI 1)), some (pm_i (v3 + (nI 1))), some (pm_i (nI 0))] [] (mm x R Z Y o A c G g) Q) (k3 : (¬ (vs0 = 0)) → pW ns d 54 41 [some (pm_r 20 0), some (pm_i v1), some (pm_i v2), some (pm_i v3), u4] [] (mm x R Z Y o A c G g) Q) : pW ns d 54 38 [some (pm_r 20 0), some (pm_i v1), some (pm_i v2), some (pm_i v3), u4] [pm_i vs0] (mm x R Z Y o A c G g) Q := by
  refine b54_38 hR  (fun h1 => ?_) (fun h1 => ?_)
  · skip
    refine b54_60 hR   (fun h2 => ?_) (fun h2 => ?_)
    · skip
      exact b54_76 hR   (k1 h1 h2)
    · skip
      refine b54_67 hR   (fun h3 => ?_) (fun h3 => ?_)
      · skip
        exact b54_72 hR   (k2 h1 h2)
      · exact absurd h3 (by decide)
  · skip
    exact (k3 h1)
set_option maxRecDepth 20000 in
theorem t54_41 (hR : RS R) {v1 : Int32} {v2 : Int32} {v3 : Int32} {u4 : Option pm_V} {j1 : Nat} {j2 : Nat} (e1 : v3 = nI j1) (l1 : j1 < 8) (e2 : G 22 j1 = nI j2) (l2 : j2 < 8) (k1 : (G 23 j2 = v1) → (v2 = 0) → pW ns d 54 4 [some (pm_r 20 0), some (pm_i v1), some (pm_i (nI 0)), some (pm_i (v3 + (nI 1))), some (pm_i (nI 0))] [] (mm x R Z Y o A c G g) Q) (k2 : (G 23 j2 = v1) → (¬ (v2 = 0)) → pW ns d 54 4 [some (pm_r 20 0), some (pm_i v1), some (pm_i (nI 1)), some (pm_i (v3 + (nI 1))), some (pm_i (nI 0))] [] (mm x R Z Y o A c G g) Q) (k3 : (¬ (G 23 j2 = v1)) → (v2 = 0) → pW ns d 54 4 [some (pm_r 20 0), some (pm_i v1), some (pm_i (nI 0)), some (pm_i (v3 + (nI 1))), some (pm_i (nI 1))] [] (mm x R Z Y o A c G g) Q) (k4 : (¬ (G 23 j2 = v1)) → (¬ (v2 = 0)) → pW ns d 54 4 [some (pm_r 20 0), some (pm_i v1), some (pm_i (nI 0)), some (pm_i (v3 + (nI 1))), some (pm_i (nI 1))] [] (mm x R Z Y o A c G g) Q) : pW ns d 54 41 [some (pm_r 20 0), some (pm_i v1), some (pm_i v2), some (pm_i v3), u4] [] (mm x R Z Y o A c G g) Q := by
  refine b54_41 hR e1 l1 e2 l2 (fun h1 => ?_) (fun h1 => ?_)
  · skip
    refine b54_60 hR   (fun h2 => ?_) (fun h2 => ?_)
    · skip
      exact b54_76 hR   (k1 h1 h2)
    · skip
      refine b54_67 hR   (fun h3 => ?_) (fun h3 => ?_)
      · skip
        exact b54_72 hR   (k2 h1 h2)
      · exact absurd h3 (by decide)
  · skip
    refine b54_56 hR   (fun h2 => ?_) (fun h2 => ?_)
    · skip
      exact b54_76 hR   (k3 h1 h2)
    · skip
      refine b54_67 hR   (fun h3 => ?_) (fun h3 => ?_)
      · exact absurd h3 (by decide)
      · skip
        exact b54_76 hR   (k4 h1 h2)
set_option maxRecDepth 20000 in
theorem t54_56 (hR : RS R) {v1 : Int32} {v2 : Int32} {v3 : Int32} {u4 : Option pm_V}  (k1 : (v2 = 0) → pW ns d 54 4 [some (pm_r 20 0), some (pm_i v1), some (pm_i (nI 0)), some (pm_i (v3 + (nI 1))), some (pm_i (nI 1))] [] (mm x R Z Y o A c G g) Q) (k2 : (¬ (v2 = 0)) → pW ns d 54 4 [some (pm_r 20 0), some (pm_i v1), some (pm_i (nI 0)), some (pm_i (v3 + (nI 1))), some (pm_i (nI 1))] [] (mm x R Z Y o A c G g) Q) : pW ns d 54 56 [some (pm_r 20 0), some (pm_i v1), some (pm_i v2), some (pm_i v3), u4] [] (mm x R Z Y o A c G g) Q := by
  refine b54_56 hR  (fun h1 => ?_) (fun h1 => ?_)
  · skip
    exact b54_76 hR   (k1 h1)
  · skip
    refine b54_67 hR   (fun h2 => ?_) (fun h2 => ?_)
    · exact absurd h2 (by decide)
    · skip
      exact b54_76 hR   (k2 h1)
/-! 55 JobLayerModel.finished -/
set_option maxRecDepth 20000 in
theorem b55_0 (hR : RS R) {v1 : Int32} {v2 : Int32} {j1 : Nat} (e1 : v1 = nI j1) (l1 : j1 < 8)  (k : Q (.inl none, (mm x R Z Y o A c (pm_v (pm_v (pm_v G 26 j1 v2) 21 j1 (nI 1)) 34 j1 (nI 0)) g))) : pW ns d 55 0 [some (pm_r 20 0), some (pm_i v1), some (pm_i v2)] [] (mm x R Z Y o A c G g) Q := by
  refine pW_eq 2 (pc' := 4) (L' := [some (pm_r 20 0), some (pm_i v1), some (pm_i v2)]) (S' := [pm_r 26 0]) (M' := (mm x R Z Y o A c G g)) (fun call n => ?_) ?_
  · refine Eq.trans (b := pm_g (mm x R Z Y o A c G g) 20 0 (pm_go call ns d 55 n 4 [some (pm_r 20 0), some (pm_i v1), some (pm_i v2)] [pm_a (R 20 0 6)] (mm x R Z Y o A c G g))) rfl ?_
    refine (g_ok (f := 20) (by decide) rfl).trans ?_
    exact (congrArg (fun z => pm_go call ns d 55 n 4 [some (pm_r 20 0), some (pm_i v1), some (pm_i v2)] [pm_a z] (mm x R Z Y o A c G g)) (rs_20_6 hR))
  refine pW_eq 3 (pc' := 7) (L' := [some (pm_r 20 0), some (pm_i v1), some (pm_i v2)]) (S' := []) (M' := (mm x R Z Y o A c (pm_v G 26 j1 v2) g)) (fun call n => ?_) ?_
  · refine Eq.trans (b := pm_g (mm x R Z Y o A c G g) 26 0 (pm_ix (v1) 8 (fun jx => pm_go call ns d 55 n 7 [some (pm_r 20 0), some (pm_i v1), some (pm_i v2)] [] (pm_u (mA Z A G) 26 0 jx v2, mB Y o c g, R, pm_tot, x)))) rfl ?_
    refine (g_ok (f := 26) (by decide) rfl).trans ?_
    refine (ix_ok (j := j1) e1 l1 (by decide)).trans ?_
    exact (congrArg (fun z => pm_go call ns d 55 n 7 [some (pm_r 20 0), some (pm_i v1), some (pm_i v2)] [] (z, mB Y o c g, R, pm_tot, x)) (uG (by decide)))
  refine pW_eq 2 (pc' := 11) (L' := [some (pm_r 20 0), some (pm_i v1), some (pm_i v2)]) (S' := [pm_r 21 0]) (M' := (mm x R Z Y o A c (pm_v G 26 j1 v2) g)) (fun call n => ?_) ?_
  · refine Eq.trans (b := pm_g (mm x R Z Y o A c (pm_v G 26 j1 v2) g) 20 0 (pm_go call ns d 55 n 11 [some (pm_r 20 0), some (pm_i v1), some (pm_i v2)] [pm_a (R 20 0 1)] (mm x R Z Y o A c (pm_v G 26 j1 v2) g))) rfl ?_
    refine (g_ok (f := 20) (by decide) rfl).trans ?_
    exact (congrArg (fun z => pm_go call ns d 55 n 11 [some (pm_r 20 0), some (pm_i v1), some (pm_i v2)] [pm_a z] (mm x R Z Y o A c (pm_v G 26 j1 v2) g)) (rs_20_1 hR))
  refine pW_eq 3 (pc' := 14) (L' := [some (pm_r 20 0), some (pm_i v1), some (pm_i v2)]) (S' := []) (M' := (mm x R Z Y o A c (pm_v (pm_v G 26 j1 v2) 21 j1 (nI 1)) g)) (fun call n => ?_) ?_
  · refine Eq.trans (b := pm_g (mm x R Z Y o A c (pm_v G 26 j1 v2) g) 21 0 (pm_ix (v1) 8 (fun jx => pm_go call ns d 55 n 14 [some (pm_r 20 0), some (pm_i v1), some (pm_i v2)] [] (pm_u (mA Z A (pm_v G 26 j1 v2)) 21 0 jx (nI 1), mB Y o c g, R, pm_tot, x)))) rfl ?_
    refine (g_ok (f := 21) (by decide) rfl).trans ?_
    refine (ix_ok (j := j1) e1 l1 (by decide)).trans ?_
    exact (congrArg (fun z => pm_go call ns d 55 n 14 [some (pm_r 20 0), some (pm_i v1), some (pm_i v2)] [] (z, mB Y o c g, R, pm_tot, x)) (uG (by decide)))
  refine pW_eq 2 (pc' := 18) (L' := [some (pm_r 20 0), some (pm_i v1), some (pm_i v2)]) (S' := [pm_r 34 0]) (M' := (mm x R Z Y o A c (pm_v (pm_v G 26 j1 v2) 21 j1 (nI 1)) g)) (fun call n => ?_) ?_
  · refine Eq.trans (b := pm_g (mm x R Z Y o A c (pm_v (pm_v G 26 j1 v2) 21 j1 (nI 1)) g) 20 0 (pm_go call ns d 55 n 18 [some (pm_r 20 0), some (pm_i v1), some (pm_i v2)] [pm_a (R 20 0 14)] (mm x R Z Y o A c (pm_v (pm_v G 26 j1 v2) 21 j1 (nI 1)) g))) rfl ?_
    refine (g_ok (f := 20) (by decide) rfl).trans ?_
    exact (congrArg (fun z => pm_go call ns d 55 n 18 [some (pm_r 20 0), some (pm_i v1), some (pm_i v2)] [pm_a z] (mm x R Z Y o A c (pm_v (pm_v G 26 j1 v2) 21 j1 (nI 1)) g)) (rs_20_14 hR))
  refine pW_eq 3 (pc' := 21) (L' := [some (pm_r 20 0), some (pm_i v1), some (pm_i v2)]) (S' := []) (M' := (mm x R Z Y o A c (pm_v (pm_v (pm_v G 26 j1 v2) 21 j1 (nI 1)) 34 j1 (nI 0)) g)) (fun call n => ?_) ?_
  · refine Eq.trans (b := pm_g (mm x R Z Y o A c (pm_v (pm_v G 26 j1 v2) 21 j1 (nI 1)) g) 34 0 (pm_ix (v1) 8 (fun jx => pm_go call ns d 55 n 21 [some (pm_r 20 0), some (pm_i v1), some (pm_i v2)] [] (pm_u (mA Z A (pm_v (pm_v G 26 j1 v2) 21 j1 (nI 1))) 34 0 jx (nI 0), mB Y o c g, R, pm_tot, x)))) rfl ?_
    refine (g_ok (f := 34) (by decide) rfl).trans ?_
    refine (ix_ok (j := j1) e1 l1 (by decide)).trans ?_
    exact (congrArg (fun z => pm_go call ns d 55 n 21 [some (pm_r 20 0), some (pm_i v1), some (pm_i v2)] [] (z, mB Y o c g, R, pm_tot, x)) (uG (by decide)))
  refine pW_ret 1 (fun call n => ?_) k
  rfl
/-! 56 JobLayerModel.hear -/
set_option maxRecDepth 20000 in
theorem b56_0 (hR : RS R) {v1 : Int32} {v2 : Int32} {j1 : Nat} {j2 : Nat} (e1 : v1 = nI j1) (l1 : j1 < 8) (e2 : ((nI 16) * v1) + ((G 28 j1) - (G 28 j1) / (nI 16) * (nI 16)) = nI j2) (l2 : j2 < 128)  (k1 : (pm_v (pm_v G 40 j2 v2) 28 j1 (((pm_v G 40 j2 v2) 28 j1) + (nI 1))) 21 j1 = nI 2 → pW ns d 56 40 [some (pm_r 20 0), some (pm_i v1), some (pm_i v2)] [] (mm x R Z Y o A c (pm_v (pm_v G 40 j2 v2) 28 j1 (((pm_v G 40 j2 v2) 28 j1) + (nI 1))) g) Q) (k2 : ¬ ((pm_v (pm_v G 40 j2 v2) 28 j1 (((pm_v G 40 j2 v2) 28 j1) + (nI 1))) 21 j1 = nI 2) → pW ns d 56 47 [some (pm_r 20 0), some (pm_i v1), some (pm_i v2)] [] (mm x R Z Y o A c (pm_v (pm_v G 40 j2 v2) 28 j1 (((pm_v G 40 j2 v2) 28 j1) + (nI 1))) g) Q) : pW ns d 56 0 [some (pm_r 20 0), some (pm_i v1), some (pm_i v2)] [] (mm x R Z Y o A c G g) Q := by
  refine pW_eq 2 (pc' := 4) (L' := [some (pm_r 20 0), some (pm_i v1), some (pm_i v2)]) (S' := [pm_r 40 0]) (M' := (mm x R Z Y o A c G g)) (fun call n => ?_) ?_
  · refine Eq.trans (b := pm_g (mm x R Z Y o A c G g) 20 0 (pm_go call ns d 56 n 4 [some (pm_r 20 0), some (pm_i v1), some (pm_i v2)] [pm_a (R 20 0 21)] (mm x R Z Y o A c G g))) rfl ?_
    refine (g_ok (f := 20) (by decide) rfl).trans ?_
    exact (congrArg (fun z => pm_go call ns d 56 n 4 [some (pm_r 20 0), some (pm_i v1), some (pm_i v2)] [pm_a z] (mm x R Z Y o A c G g)) (rs_20_21 hR))
  refine pW_eq 5 (pc' := 12) (L' := [some (pm_r 20 0), some (pm_i v1), some (pm_i v2)]) (S' := [pm_r 28 0, pm_i ((nI 16) * v1), pm_r 40 0]) (M' := (mm x R Z Y o A c G g)) (fun call n => ?_) ?_
  · refine Eq.trans (b := pm_g (mm x R Z Y o A c G g) 20 0 (pm_go call ns d 56 n 12 [some (pm_r 20 0), some (pm_i v1), some (pm_i v2)] [pm_a (R 20 0 8), pm_i ((nI 16) * v1), pm_r 40 0] (mm x R Z Y o A c G g))) rfl ?_
    refine (g_ok (f := 20) (by decide) rfl).trans ?_
    exact (congrArg (fun z => pm_go call ns d 56 n 12 [some (pm_r 20 0), some (pm_i v1), some (pm_i v2)] [pm_a z, pm_i ((nI 16) * v1), pm_r 40 0] (mm x R Z Y o A c G g)) (rs_20_8 hR))
  refine pW_eq 2 (pc' := 14) (L' := [some (pm_r 20 0), some (pm_i v1), some (pm_i v2)]) (S' := [pm_i (G 28 j1), pm_i ((nI 16) * v1), pm_r 40 0]) (M' := (mm x R Z Y o A c G g)) (fun call n => ?_) ?_
  · refine Eq.trans (b := pm_g (mm x R Z Y o A c G g) 28 0 (pm_ix (v1) 8 (fun jx => pm_go call ns d 56 n 14 [some (pm_r 20 0), some (pm_i v1), some (pm_i v2)] [pm_i (G 28 jx), pm_i ((nI 16) * v1), pm_r 40 0] (mm x R Z Y o A c G g)))) rfl ?_
    refine (g_ok (f := 28) (by decide) rfl).trans ?_
    refine (ix_ok (j := j1) e1 l1 (by decide)).trans ?_
    rfl
  refine pW_eq 2 (pc' := 17) (L' := [some (pm_r 20 0), some (pm_i v1), some (pm_i v2)]) (S' := [pm_i ((G 28 j1) - (G 28 j1) / (nI 16) * (nI 16)), pm_i ((nI 16) * v1), pm_r 40 0]) (M' := (mm x R Z Y o A c G g)) (fun call n => ?_) ?_
  · refine Eq.trans (b := if (nI 16) = 0 then none else pm_go call ns d 56 n 17 [some (pm_r 20 0), some (pm_i v1), some (pm_i v2)] [pm_i ((G 28 j1) - (G 28 j1) / (nI 16) * (nI 16)), pm_i ((nI 16) * v1), pm_r 40 0] (mm x R Z Y o A c G g)) rfl ?_
    refine (if_neg (by decide)).trans ?_
    rfl
  refine pW_eq 3 (pc' := 20) (L' := [some (pm_r 20 0), some (pm_i v1), some (pm_i v2)]) (S' := []) (M' := (mm x R Z Y o A c (pm_v G 40 j2 v2) g)) (fun call n => ?_) ?_
  · refine Eq.trans (b := pm_g (mm x R Z Y o A c G g) 40 0 (pm_ix (((nI 16) * v1) + ((G 28 j1) - (G 28 j1) / (nI 16) * (nI 16))) 128 (fun jx => pm_go call ns d 56 n 20 [some (pm_r 20 0), some (pm_i v1), some (pm_i v2)] [] (pm_u (mA Z A G) 40 0 jx v2, mB Y o c g, R, pm_tot, x)))) rfl ?_
    refine (g_ok (f := 40) (by decide) rfl).trans ?_
    refine (ix_ok (j := j2) e2 l2 (by decide)).trans ?_
    exact (congrArg (fun z => pm_go call ns d 56 n 20 [some (pm_r 20 0), some (pm_i v1), some (pm_i v2)] [] (z, mB Y o c g, R, pm_tot, x)) (uG (by decide)))
  refine pW_eq 2 (pc' := 24) (L' := [some (pm_r 20 0), some (pm_i v1), some (pm_i v2)]) (S' := [pm_r 28 0]) (M' := (mm x R Z Y o A c (pm_v G 40 j2 v2) g)) (fun call n => ?_) ?_
  · refine Eq.trans (b := pm_g (mm x R Z Y o A c (pm_v G 40 j2 v2) g) 20 0 (pm_go call ns d 56 n 24 [some (pm_r 20 0), some (pm_i v1), some (pm_i v2)] [pm_a (R 20 0 8)] (mm x R Z Y o A c (pm_v G 40 j2 v2) g))) rfl ?_
    refine (g_ok (f := 20) (by decide) rfl).trans ?_
    exact (congrArg (fun z => pm_go call ns d 56 n 24 [some (pm_r 20 0), some (pm_i v1), some (pm_i v2)] [pm_a z] (mm x R Z Y o A c (pm_v G 40 j2 v2) g)) (rs_20_8 hR))
  refine pW_eq 3 (pc' := 27) (L' := [some (pm_r 20 0), some (pm_i v1), some (pm_i v2)]) (S' := [pm_i ((pm_v G 40 j2 v2) 28 j1), pm_i v1, pm_r 28 0]) (M' := (mm x R Z Y o A c (pm_v G 40 j2 v2) g)) (fun call n => ?_) ?_
  · refine Eq.trans (b := pm_g (mm x R Z Y o A c (pm_v G 40 j2 v2) g) 28 0 (pm_ix (v1) 8 (fun jx => pm_go call ns d 56 n 27 [some (pm_r 20 0), some (pm_i v1), some (pm_i v2)] [pm_i ((pm_v G 40 j2 v2) 28 jx), pm_i v1, pm_r 28 0] (mm x R Z Y o A c (pm_v G 40 j2 v2) g)))) rfl ?_
    refine (g_ok (f := 28) (by decide) rfl).trans ?_
    refine (ix_ok (j := j1) e1 l1 (by decide)).trans ?_
    rfl
  refine pW_eq 3 (pc' := 30) (L' := [some (pm_r 20 0), some (pm_i v1), some (pm_i v2)]) (S' := []) (M' := (mm x R Z Y o A c (pm_v (pm_v G 40 j2 v2) 28 j1 (((pm_v G 40 j2 v2) 28 j1) + (nI 1))) g)) (fun call n => ?_) ?_
  · refine Eq.trans (b := pm_g (mm x R Z Y o A c (pm_v G 40 j2 v2) g) 28 0 (pm_ix (v1) 8 (fun jx => pm_go call ns d 56 n 30 [some (pm_r 20 0), some (pm_i v1), some (pm_i v2)] [] (pm_u (mA Z A (pm_v G 40 j2 v2)) 28 0 jx (((pm_v G 40 j2 v2) 28 j1) + (nI 1)), mB Y o c g, R, pm_tot, x)))) rfl ?_
    refine (g_ok (f := 28) (by decide) rfl).trans ?_
    refine (ix_ok (j := j1) e1 l1 (by decide)).trans ?_
    exact (congrArg (fun z => pm_go call ns d 56 n 30 [some (pm_r 20 0), some (pm_i v1), some (pm_i v2)] [] (z, mB Y o c g, R, pm_tot, x)) (uG (by decide)))
  refine pW_eq 2 (pc' := 34) (L' := [some (pm_r 20 0), some (pm_i v1), some (pm_i v2)]) (S' := [pm_r 21 0]) (M' := (mm x R Z Y o A c (pm_v (pm_v G 40 j2 v2) 28 j1 (((pm_v G 40 j2 v2) 28 j1) + (nI 1))) g)) (fun call n => ?_) ?_
  · refine Eq.trans (b := pm_g (mm x R Z Y o A c (pm_v (pm_v G 40 j2 v2) 28 j1 (((pm_v G 40 j2 v2) 28 j1) + (nI 1))) g) 20 0 (pm_go call ns d 56 n 34 [some (pm_r 20 0), some (pm_i v1), some (pm_i v2)] [pm_a (R 20 0 1)] (mm x R Z Y o A c (pm_v (pm_v G 40 j2 v2) 28 j1 (((pm_v G 40 j2 v2) 28 j1) + (nI 1))) g))) rfl ?_
    refine (g_ok (f := 20) (by decide) rfl).trans ?_
    exact (congrArg (fun z => pm_go call ns d 56 n 34 [some (pm_r 20 0), some (pm_i v1), some (pm_i v2)] [pm_a z] (mm x R Z Y o A c (pm_v (pm_v G 40 j2 v2) 28 j1 (((pm_v G 40 j2 v2) 28 j1) + (nI 1))) g)) (rs_20_1 hR))
  refine pW_eq 2 (pc' := 36) (L' := [some (pm_r 20 0), some (pm_i v1), some (pm_i v2)]) (S' := [pm_i ((pm_v (pm_v G 40 j2 v2) 28 j1 (((pm_v G 40 j2 v2) 28 j1) + (nI 1))) 21 j1)]) (M' := (mm x R Z Y o A c (pm_v (pm_v G 40 j2 v2) 28 j1 (((pm_v G 40 j2 v2) 28 j1) + (nI 1))) g)) (fun call n => ?_) ?_
  · refine Eq.trans (b := pm_g (mm x R Z Y o A c (pm_v (pm_v G 40 j2 v2) 28 j1 (((pm_v G 40 j2 v2) 28 j1) + (nI 1))) g) 21 0 (pm_ix (v1) 8 (fun jx => pm_go call ns d 56 n 36 [some (pm_r 20 0), some (pm_i v1), some (pm_i v2)] [pm_i ((pm_v (pm_v G 40 j2 v2) 28 j1 (((pm_v G 40 j2 v2) 28 j1) + (nI 1))) 21 jx)] (mm x R Z Y o A c (pm_v (pm_v G 40 j2 v2) 28 j1 (((pm_v G 40 j2 v2) 28 j1) + (nI 1))) g)))) rfl ?_
    refine (g_ok (f := 21) (by decide) rfl).trans ?_
    refine (ix_ok (j := j1) e1 l1 (by decide)).trans ?_
    rfl
  exact pW_if 2 (c := (pm_v (pm_v G 40 j2 v2) 28 j1 (((pm_v G 40 j2 v2) 28 j1) + (nI 1))) 21 j1 = nI 2) (fun call n => rfl) k1 k2
set_option maxRecDepth 20000 in
theorem b56_40 (hR : RS R) {v1 : Int32} {u2 : Option pm_V}  {x2 : Nat} {o2 : Int64} {A2 : Nat → Nat → Nat → Int32} {c2 : Nat → Int64} {G2 : Nat → Nat → Int32} {g2 : Nat → Int64}  (hE : pE ns d 55 [pm_r 20 0, pm_i v1, pm_i (-nI 4)] (mm x R Z Y o A c G g) (.inl (none), (mm x2 R Z Y o2 A2 c2 G2 g2))) (k : pW ns d 56 47 [some (pm_r 20 0), some (pm_i v1), u2] [] (mm x2 R Z Y o2 A2 c2 G2 g2) Q) : pW ns d 56 40 [some (pm_r 20 0), some (pm_i v1), u2] [] (mm x R Z Y o A c G g) Q := by
  refine pW_call (pc' := 44) (r := []) (L' := [some (pm_r 20 0), some (pm_i v1), u2]) 4 (fun call n => ?_) hE k
  exact Eq.trans (b := pm_g (mm x R Z Y o A c G g) 20 0 (pm_cl call 56 (pm_go call ns d 56 n) 44 55 [pm_r 20 0, pm_i v1, pm_i (-nI 4)] [] [some (pm_r 20 0), some (pm_i v1), u2] (mm x R Z Y o A c G g))) rfl (g_ok (f := 20) (by decide) rfl)
set_option maxRecDepth 20000 in
theorem b56_47 (hR : RS R) {u0 : Option pm_V} {u1 : Option pm_V} {u2 : Option pm_V}   (k : Q (.inl none, (mm x R Z Y o A c G g))) : pW ns d 56 47 [u0, u1, u2] [] (mm x R Z Y o A c G g) Q := by
  refine pW_ret 1 (fun call n => ?_) k
  rfl
set_option maxRecDepth 20000 in
theorem t56_0 (hR : RS R) {v1 : Int32} {v2 : Int32} {j1 : Nat} {j2 : Nat} (e1 : v1 = nI j1) (l1 : j1 < 8) (e2 : ((nI 16) * v1) + ((G 28 j1) - (G 28 j1) / (nI 16) * (nI 16)) = nI j2) (l2 : j2 < 128) (k1 : ((pm_v (pm_v G 40 j2 v2) 28 j1 (((pm_v G 40 j2 v2) 28 j1) + (nI 1))) 21 j1 = nI 2) → pW ns d 56 40 [some (pm_r 20 0), some (pm_i v1), some (pm_i v2)] [] (mm x R Z Y o A c (pm_v (pm_v G 40 j2 v2) 28 j1 (((pm_v G 40 j2 v2) 28 j1) + (nI 1))) g) Q) (k2 : (¬ ((pm_v (pm_v G 40 j2 v2) 28 j1 (((pm_v G 40 j2 v2) 28 j1) + (nI 1))) 21 j1 = nI 2)) → Q (.inl none, (mm x R Z Y o A c (pm_v (pm_v G 40 j2 v2) 28 j1 (((pm_v G 40 j2 v2) 28 j1) + (nI 1))) g))) : pW ns d 56 0 [some (pm_r 20 0), some (pm_i v1), some (pm_i v2)] [] (mm x R Z Y o A c G g) Q := by
  refine b56_0 hR e1 l1 e2 l2 (fun h1 => ?_) (fun h1 => ?_)
  · skip
    exact (k1 h1)
  · skip
    exact b56_47 hR   (k2 h1)
/-! 57 JobLayerModel.tellParent -/
set_option maxRecDepth 20000 in
theorem b57_0 (hR : RS R) {v1 : Int32} {j1 : Nat} (e1 : ((nI 8) * v1) + (nI 7) = nI j1) (l1 : j1 < 64)  (k1 : G 33 j1 = nI 2 → pW ns d 57 17 [some (pm_r 20 0), some (pm_i v1)] [] (mm x R Z Y o A c G g) Q) (k2 : ¬ (G 33 j1 = nI 2) → pW ns d 57 16 [some (pm_r 20 0), some (pm_i v1)] [] (mm x R Z Y o A c G g) Q) : pW ns d 57 0 [some (pm_r 20 0), some (pm_i v1)] [] (mm x R Z Y o A c G g) Q := by
  refine pW_eq 2 (pc' := 4) (L' := [some (pm_r 20 0), some (pm_i v1)]) (S' := [pm_r 33 0]) (M' := (mm x R Z Y o A c G g)) (fun call n => ?_) ?_
  · refine Eq.trans (b := pm_g (mm x R Z Y o A c G g) 20 0 (pm_go call ns d 57 n 4 [some (pm_r 20 0), some (pm_i v1)] [pm_a (R 20 0 13)] (mm x R Z Y o A c G g))) rfl ?_
    refine (g_ok (f := 20) (by decide) rfl).trans ?_
    exact (congrArg (fun z => pm_go call ns d 57 n 4 [some (pm_r 20 0), some (pm_i v1)] [pm_a z] (mm x R Z Y o A c G g)) (rs_20_13 hR))
  refine pW_eq 6 (pc' := 12) (L' := [some (pm_r 20 0), some (pm_i v1)]) (S' := [pm_i (G 33 j1)]) (M' := (mm x R Z Y o A c G g)) (fun call n => ?_) ?_
  · refine Eq.trans (b := pm_g (mm x R Z Y o A c G g) 33 0 (pm_ix (((nI 8) * v1) + (nI 7)) 64 (fun jx => pm_go call ns d 57 n 12 [some (pm_r 20 0), some (pm_i v1)] [pm_i (G 33 jx)] (mm x R Z Y o A c G g)))) rfl ?_
    refine (g_ok (f := 33) (by decide) rfl).trans ?_
    refine (ix_ok (j := j1) e1 l1 (by decide)).trans ?_
    rfl
  exact pW_if 2 (c := G 33 j1 = nI 2) (fun call n => rfl) k1 k2
set_option maxRecDepth 20000 in
theorem b57_17 (hR : RS R) {v1 : Int32} {j1 : Nat} (e1 : v1 = nI j1) (l1 : j1 < 8)  (k1 : G 21 j1 = nI 3 → pW ns d 57 42 [some (pm_r 20 0), some (pm_i v1)] [] (mm x R Z Y o A c G g) Q) (k2 : ¬ (G 21 j1 = nI 3) → pW ns d 57 27 [some (pm_r 20 0), some (pm_i v1)] [] (mm x R Z Y o A c G g) Q) : pW ns d 57 17 [some (pm_r 20 0), some (pm_i v1)] [] (mm x R Z Y o A c G g) Q := by
  refine pW_eq 2 (pc' := 21) (L' := [some (pm_r 20 0), some (pm_i v1)]) (S' := [pm_r 21 0]) (M' := (mm x R Z Y o A c G g)) (fun call n => ?_) ?_
  · refine Eq.trans (b := pm_g (mm x R Z Y o A c G g) 20 0 (pm_go call ns d 57 n 21 [some (pm_r 20 0), some (pm_i v1)] [pm_a (R 20 0 1)] (mm x R Z Y o A c G g))) rfl ?_
    refine (g_ok (f := 20) (by decide) rfl).trans ?_
    exact (congrArg (fun z => pm_go call ns d 57 n 21 [some (pm_r 20 0), some (pm_i v1)] [pm_a z] (mm x R Z Y o A c G g)) (rs_20_1 hR))
  refine pW_eq 2 (pc' := 23) (L' := [some (pm_r 20 0), some (pm_i v1)]) (S' := [pm_i (G 21 j1)]) (M' := (mm x R Z Y o A c G g)) (fun call n => ?_) ?_
  · refine Eq.trans (b := pm_g (mm x R Z Y o A c G g) 21 0 (pm_ix (v1) 8 (fun jx => pm_go call ns d 57 n 23 [some (pm_r 20 0), some (pm_i v1)] [pm_i (G 21 jx)] (mm x R Z Y o A c G g)))) rfl ?_
    refine (g_ok (f := 21) (by decide) rfl).trans ?_
    refine (ix_ok (j := j1) e1 l1 (by decide)).trans ?_
    rfl
  exact pW_if 2 (c := G 21 j1 = nI 3) (fun call n => rfl) k1 k2
set_option maxRecDepth 20000 in
theorem b57_16 (hR : RS R) {u0 : Option pm_V} {u1 : Option pm_V}   (k : Q (.inl none, (mm x R Z Y o A c G g))) : pW ns d 57 16 [u0, u1] [] (mm x R Z Y o A c G g) Q := by
  refine pW_ret 1 (fun call n => ?_) k
  rfl
set_option maxRecDepth 20000 in
theorem b57_42 (hR : RS R) {v1 : Int32} {j1 : Nat} (e1 : v1 = nI j1) (l1 : j1 < 8)  (k : Q (.inl none, (mm x R Z Y o A c (pm_v G 25 j1 ((G 25 j1) ||| (nI 128))) g))) : pW ns d 57 42 [some (pm_r 20 0), some (pm_i v1)] [] (mm x R Z Y o A c G g) Q := by
  refine pW_eq 2 (pc' := 46) (L' := [some (pm_r 20 0), some (pm_i v1)]) (S' := [pm_r 25 0]) (M' := (mm x R Z Y o A c G g)) (fun call n => ?_) ?_
  · refine Eq.trans (b := pm_g (mm x R Z Y o A c G g) 20 0 (pm_go call ns d 57 n 46 [some (pm_r 20 0), some (pm_i v1)] [pm_a (R 20 0 5)] (mm x R Z Y o A c G g))) rfl ?_
    refine (g_ok (f := 20) (by decide) rfl).trans ?_
    exact (congrArg (fun z => pm_go call ns d 57 n 46 [some (pm_r 20 0), some (pm_i v1)] [pm_a z] (mm x R Z Y o A c G g)) (rs_20_5 hR))
  refine pW_eq 3 (pc' := 51) (L' := [some (pm_r 20 0), some (pm_i v1)]) (S' := [pm_r 25 0, pm_i v1, pm_r 25 0]) (M' := (mm x R Z Y o A c G g)) (fun call n => ?_) ?_
  · refine Eq.trans (b := pm_g (mm x R Z Y o A c G g) 20 0 (pm_go call ns d 57 n 51 [some (pm_r 20 0), some (pm_i v1)] [pm_a (R 20 0 5), pm_i v1, pm_r 25 0] (mm x R Z Y o A c G g))) rfl ?_
    refine (g_ok (f := 20) (by decide) rfl).trans ?_
    exact (congrArg (fun z => pm_go call ns d 57 n 51 [some (pm_r 20 0), some (pm_i v1)] [pm_a z, pm_i v1, pm_r 25 0] (mm x R Z Y o A c G g)) (rs_20_5 hR))
  refine pW_eq 2 (pc' := 53) (L' := [some (pm_r 20 0), some (pm_i v1)]) (S' := [pm_i (G 25 j1), pm_i v1, pm_r 25 0]) (M' := (mm x R Z Y o A c G g)) (fun call n => ?_) ?_
  · refine Eq.trans (b := pm_g (mm x R Z Y o A c G g) 25 0 (pm_ix (v1) 8 (fun jx => pm_go call ns d 57 n 53 [some (pm_r 20 0), some (pm_i v1)] [pm_i (G 25 jx), pm_i v1, pm_r 25 0] (mm x R Z Y o A c G g)))) rfl ?_
    refine (g_ok (f := 25) (by decide) rfl).trans ?_
    refine (ix_ok (j := j1) e1 l1 (by decide)).trans ?_
    rfl
  refine pW_eq 3 (pc' := 58) (L' := [some (pm_r 20 0), some (pm_i v1)]) (S' := []) (M' := (mm x R Z Y o A c (pm_v G 25 j1 ((G 25 j1) ||| (nI 128))) g)) (fun call n => ?_) ?_
  · refine Eq.trans (b := pm_g (mm x R Z Y o A c G g) 25 0 (pm_ix (v1) 8 (fun jx => pm_go call ns d 57 n 58 [some (pm_r 20 0), some (pm_i v1)] [] (pm_u (mA Z A G) 25 0 jx ((G 25 j1) ||| (nI 128)), mB Y o c g, R, pm_tot, x)))) rfl ?_
    refine (g_ok (f := 25) (by decide) rfl).trans ?_
    refine (ix_ok (j := j1) e1 l1 (by decide)).trans ?_
    exact (congrArg (fun z => pm_go call ns d 57 n 58 [some (pm_r 20 0), some (pm_i v1)] [] (z, mB Y o c g, R, pm_tot, x)) (uG (by decide)))
  refine pW_ret 2 (fun call n => ?_) k
  rfl
set_option maxRecDepth 20000 in
theorem b57_27 (hR : RS R) {v1 : Int32} {j1 : Nat} (e1 : v1 = nI j1) (l1 : j1 < 8)  (k1 : ((G 24 j1) >>> ((nI 7) &&& 31)) &&& (nI 1) = nI 1 → pW ns d 57 42 [some (pm_r 20 0), some (pm_i v1)] [] (mm x R Z Y o A c G g) Q) (k2 : ¬ (((G 24 j1) >>> ((nI 7) &&& 31)) &&& (nI 1) = nI 1) → pW ns d 57 61 [some (pm_r 20 0), some (pm_i v1)] [] (mm x R Z Y o A c G g) Q) : pW ns d 57 27 [some (pm_r 20 0), some (pm_i v1)] [] (mm x R Z Y o A c G g) Q := by
  refine pW_eq 2 (pc' := 31) (L' := [some (pm_r 20 0), some (pm_i v1)]) (S' := [pm_r 24 0]) (M' := (mm x R Z Y o A c G g)) (fun call n => ?_) ?_
  · refine Eq.trans (b := pm_g (mm x R Z Y o A c G g) 20 0 (pm_go call ns d 57 n 31 [some (pm_r 20 0), some (pm_i v1)] [pm_a (R 20 0 4)] (mm x R Z Y o A c G g))) rfl ?_
    refine (g_ok (f := 20) (by decide) rfl).trans ?_
    exact (congrArg (fun z => pm_go call ns d 57 n 31 [some (pm_r 20 0), some (pm_i v1)] [pm_a z] (mm x R Z Y o A c G g)) (rs_20_4 hR))
  refine pW_eq 2 (pc' := 33) (L' := [some (pm_r 20 0), some (pm_i v1)]) (S' := [pm_i (G 24 j1)]) (M' := (mm x R Z Y o A c G g)) (fun call n => ?_) ?_
  · refine Eq.trans (b := pm_g (mm x R Z Y o A c G g) 24 0 (pm_ix (v1) 8 (fun jx => pm_go call ns d 57 n 33 [some (pm_r 20 0), some (pm_i v1)] [pm_i (G 24 jx)] (mm x R Z Y o A c G g)))) rfl ?_
    refine (g_ok (f := 24) (by decide) rfl).trans ?_
    refine (ix_ok (j := j1) e1 l1 (by decide)).trans ?_
    rfl
  exact pW_if 6 (c := ((G 24 j1) >>> ((nI 7) &&& 31)) &&& (nI 1) = nI 1) (fun call n => rfl) k1 k2
set_option maxRecDepth 20000 in
theorem b57_61 (hR : RS R) {v1 : Int32}  {x2 : Nat} {o2 : Int64} {A2 : Nat → Nat → Nat → Int32} {c2 : Nat → Int64} {G2 : Nat → Nat → Int32} {g2 : Nat → Int64}  (hE : pE ns d 56 [pm_r 20 0, pm_i v1, pm_i (nI 7)] (mm x R Z Y o A c G g) (.inl (none), (mm x2 R Z Y o2 A2 c2 G2 g2))) (k : pW ns d 57 68 [some (pm_r 20 0), some (pm_i v1)] [] (mm x2 R Z Y o2 A2 c2 G2 g2) Q) : pW ns d 57 61 [some (pm_r 20 0), some (pm_i v1)] [] (mm x R Z Y o A c G g) Q := by
  refine pW_call (pc' := 65) (r := []) (L' := [some (pm_r 20 0), some (pm_i v1)]) 4 (fun call n => ?_) hE k
  exact Eq.trans (b := pm_g (mm x R Z Y o A c G g) 20 0 (pm_cl call 57 (pm_go call ns d 57 n) 65 56 [pm_r 20 0, pm_i v1, pm_i (nI 7)] [] [some (pm_r 20 0), some (pm_i v1)] (mm x R Z Y o A c G g))) rfl (g_ok (f := 20) (by decide) rfl)
set_option maxRecDepth 20000 in
theorem b57_68 (hR : RS R) {u0 : Option pm_V} {u1 : Option pm_V}   (k : Q (.inl none, (mm x R Z Y o A c G g))) : pW ns d 57 68 [u0, u1] [] (mm x R Z Y o A c G g) Q := by
  refine pW_ret 1 (fun call n => ?_) k
  rfl
set_option maxRecDepth 20000 in
theorem t57_0 (hR : RS R) {v1 : Int32} {j1 : Nat} (e1 : ((nI 8) * v1) + (nI 7) = nI j1) (l1 : j1 < 64) (k1 : (G 33 j1 = nI 2) → pW ns d 57 17 [some (pm_r 20 0), some (pm_i v1)] [] (mm x R Z Y o A c G g) Q) (k2 : (¬ (G 33 j1 = nI 2)) → Q (.inl none, (mm x R Z Y o A c G g))) : pW ns d 57 0 [some (pm_r 20 0), some (pm_i v1)] [] (mm x R Z Y o A c G g) Q := by
  refine b57_0 hR e1 l1 (fun h1 => ?_) (fun h1 => ?_)
  · skip
    exact (k1 h1)
  · skip
    exact b57_16 hR   (k2 h1)
set_option maxRecDepth 20000 in
theorem t57_17 (hR : RS R) {v1 : Int32} {j1 : Nat} (e1 : v1 = nI j1) (l1 : j1 < 8) (k1 : (G 21 j1 = nI 3) → Q (.inl none, (mm x R Z Y o A c (pm_v G 25 j1 ((G 25 j1) ||| (nI 128))) g))) (k2 : (¬ (G 21 j1 = nI 3)) → (((G 24 j1) >>> ((nI 7) &&& 31)) &&& (nI 1) = nI 1) → Q (.inl none, (mm x R Z Y o A c (pm_v G 25 j1 ((G 25 j1) ||| (nI 128))) g))) (k3 : (¬ (G 21 j1 = nI 3)) → (¬ (((G 24 j1) >>> ((nI 7) &&& 31)) &&& (nI 1) = nI 1)) → pW ns d 57 61 [some (pm_r 20 0), some (pm_i v1)] [] (mm x R Z Y o A c G g) Q) : pW ns d 57 17 [some (pm_r 20 0), some (pm_i v1)] [] (mm x R Z Y o A c G g) Q := by
  refine b57_17 hR e1 l1 (fun h1 => ?_) (fun h1 => ?_)
  · skip
    exact b57_42 hR  e1 l1 (k1 h1)
  · skip
    refine b57_27 hR  e1 l1 (fun h2 => ?_) (fun h2 => ?_)
    · skip
      exact b57_42 hR  e1 l1 (k2 h1 h2)
    · skip
      exact (k3 h1 h2)
set_option maxRecDepth 20000 in
theorem t57_27 (hR : RS R) {v1 : Int32} {j1 : Nat} (e1 : v1 = nI j1) (l1 : j1 < 8) (k1 : (((G 24 j1) >>> ((nI 7) &&& 31)) &&& (nI 1) = nI 1) → Q (.inl none, (mm x R Z Y o A c (pm_v G 25 j1 ((G 25 j1) ||| (nI 128))) g))) (k2 : (¬ (((G 24 j1) >>> ((nI 7) &&& 31)) &&& (nI 1) = nI 1)) → pW ns d 57 61 [some (pm_r 20 0), some (pm_i v1)] [] (mm x R Z Y o A c G g) Q) : pW ns d 57 27 [some (pm_r 20 0), some (pm_i v1)] [] (mm x R Z Y o A c G g) Q := by
  refine b57_27 hR e1 l1 (fun h1 => ?_) (fun h1 => ?_)
  · skip
    exact b57_42 hR  e1 l1 (k1 h1)
  · skip
    exact (k2 h1)
/-! 58 JobLayerModel.halt -/
set_option maxRecDepth 20000 in
theorem b58_0 (hR : RS R) {v1 : Int32} {j1 : Nat} (e1 : v1 = nI j1) (l1 : j1 < 8) {x2 : Nat} {o2 : Int64} {A2 : Nat → Nat → Nat → Int32} {c2 : Nat → Int64} {G2 : Nat → Nat → Int32} {g2 : Nat → Int64}  (hE : pE ns d 57 [pm_r 20 0, pm_i ((pm_v (pm_v (pm_v G 30 j1 (G 21 j1)) 21 j1 (nI 3)) 31 j1 (nI 0)) 22 j1)] (mm x R Z Y o A c (pm_v (pm_v (pm_v G 30 j1 (G 21 j1)) 21 j1 (nI 3)) 31 j1 (nI 0)) g) (.inl (none), (mm x2 R Z Y o2 A2 c2 G2 g2))) (k : pW ns d 58 36 [some (pm_r 20 0), some (pm_i v1)] [] (mm x2 R Z Y o2 A2 c2 G2 g2) Q) : pW ns d 58 0 [some (pm_r 20 0), some (pm_i v1)] [] (mm x R Z Y o A c G g) Q := by
  refine pW_eq 2 (pc' := 4) (L' := [some (pm_r 20 0), some (pm_i v1)]) (S' := [pm_r 30 0]) (M' := (mm x R Z Y o A c G g)) (fun call n => ?_) ?_
  · refine Eq.trans (b := pm_g (mm x R Z Y o A c G g) 20 0 (pm_go call ns d 58 n 4 [some (pm_r 20 0), some (pm_i v1)] [pm_a (R 20 0 10)] (mm x R Z Y o A c G g))) rfl ?_
    refine (g_ok (f := 20) (by decide) rfl).trans ?_
    exact (congrArg (fun z => pm_go call ns d 58 n 4 [some (pm_r 20 0), some (pm_i v1)] [pm_a z] (mm x R Z Y o A c G g)) (rs_20_10 hR))
  refine pW_eq 3 (pc' := 9) (L' := [some (pm_r 20 0), some (pm_i v1)]) (S' := [pm_r 21 0, pm_i v1, pm_r 30 0]) (M' := (mm x R Z Y o A c G g)) (fun call n => ?_) ?_
  · refine Eq.trans (b := pm_g (mm x R Z Y o A c G g) 20 0 (pm_go call ns d 58 n 9 [some (pm_r 20 0), some (pm_i v1)] [pm_a (R 20 0 1), pm_i v1, pm_r 30 0] (mm x R Z Y o A c G g))) rfl ?_
    refine (g_ok (f := 20) (by decide) rfl).trans ?_
    exact (congrArg (fun z => pm_go call ns d 58 n 9 [some (pm_r 20 0), some (pm_i v1)] [pm_a z, pm_i v1, pm_r 30 0] (mm x R Z Y o A c G g)) (rs_20_1 hR))
  refine pW_eq 2 (pc' := 11) (L' := [some (pm_r 20 0), some (pm_i v1)]) (S' := [pm_i (G 21 j1), pm_i v1, pm_r 30 0]) (M' := (mm x R Z Y o A c G g)) (fun call n => ?_) ?_
  · refine Eq.trans (b := pm_g (mm x R Z Y o A c G g) 21 0 (pm_ix (v1) 8 (fun jx => pm_go call ns d 58 n 11 [some (pm_r 20 0), some (pm_i v1)] [pm_i (G 21 jx), pm_i v1, pm_r 30 0] (mm x R Z Y o A c G g)))) rfl ?_
    refine (g_ok (f := 21) (by decide) rfl).trans ?_
    refine (ix_ok (j := j1) e1 l1 (by decide)).trans ?_
    rfl
  refine pW_eq 1 (pc' := 12) (L' := [some (pm_r 20 0), some (pm_i v1)]) (S' := []) (M' := (mm x R Z Y o A c (pm_v G 30 j1 (G 21 j1)) g)) (fun call n => ?_) ?_
  · refine Eq.trans (b := pm_g (mm x R Z Y o A c G g) 30 0 (pm_ix (v1) 8 (fun jx => pm_go call ns d 58 n 12 [some (pm_r 20 0), some (pm_i v1)] [] (pm_u (mA Z A G) 30 0 jx (G 21 j1), mB Y o c g, R, pm_tot, x)))) rfl ?_
    refine (g_ok (f := 30) (by decide) rfl).trans ?_
    refine (ix_ok (j := j1) e1 l1 (by decide)).trans ?_
    exact (congrArg (fun z => pm_go call ns d 58 n 12 [some (pm_r 20 0), some (pm_i v1)] [] (z, mB Y o c g, R, pm_tot, x)) (uG (by decide)))
  refine pW_eq 2 (pc' := 16) (L' := [some (pm_r 20 0), some (pm_i v1)]) (S' := [pm_r 21 0]) (M' := (mm x R Z Y o A c (pm_v G 30 j1 (G 21 j1)) g)) (fun call n => ?_) ?_
  · refine Eq.trans (b := pm_g (mm x R Z Y o A c (pm_v G 30 j1 (G 21 j1)) g) 20 0 (pm_go call ns d 58 n 16 [some (pm_r 20 0), some (pm_i v1)] [pm_a (R 20 0 1)] (mm x R Z Y o A c (pm_v G 30 j1 (G 21 j1)) g))) rfl ?_
    refine (g_ok (f := 20) (by decide) rfl).trans ?_
    exact (congrArg (fun z => pm_go call ns d 58 n 16 [some (pm_r 20 0), some (pm_i v1)] [pm_a z] (mm x R Z Y o A c (pm_v G 30 j1 (G 21 j1)) g)) (rs_20_1 hR))
  refine pW_eq 3 (pc' := 19) (L' := [some (pm_r 20 0), some (pm_i v1)]) (S' := []) (M' := (mm x R Z Y o A c (pm_v (pm_v G 30 j1 (G 21 j1)) 21 j1 (nI 3)) g)) (fun call n => ?_) ?_
  · refine Eq.trans (b := pm_g (mm x R Z Y o A c (pm_v G 30 j1 (G 21 j1)) g) 21 0 (pm_ix (v1) 8 (fun jx => pm_go call ns d 58 n 19 [some (pm_r 20 0), some (pm_i v1)] [] (pm_u (mA Z A (pm_v G 30 j1 (G 21 j1))) 21 0 jx (nI 3), mB Y o c g, R, pm_tot, x)))) rfl ?_
    refine (g_ok (f := 21) (by decide) rfl).trans ?_
    refine (ix_ok (j := j1) e1 l1 (by decide)).trans ?_
    exact (congrArg (fun z => pm_go call ns d 58 n 19 [some (pm_r 20 0), some (pm_i v1)] [] (z, mB Y o c g, R, pm_tot, x)) (uG (by decide)))
  refine pW_eq 2 (pc' := 23) (L' := [some (pm_r 20 0), some (pm_i v1)]) (S' := [pm_r 31 0]) (M' := (mm x R Z Y o A c (pm_v (pm_v G 30 j1 (G 21 j1)) 21 j1 (nI 3)) g)) (fun call n => ?_) ?_
  · refine Eq.trans (b := pm_g (mm x R Z Y o A c (pm_v (pm_v G 30 j1 (G 21 j1)) 21 j1 (nI 3)) g) 20 0 (pm_go call ns d 58 n 23 [some (pm_r 20 0), some (pm_i v1)] [pm_a (R 20 0 11)] (mm x R Z Y o A c (pm_v (pm_v G 30 j1 (G 21 j1)) 21 j1 (nI 3)) g))) rfl ?_
    refine (g_ok (f := 20) (by decide) rfl).trans ?_
    exact (congrArg (fun z => pm_go call ns d 58 n 23 [some (pm_r 20 0), some (pm_i v1)] [pm_a z] (mm x R Z Y o A c (pm_v (pm_v G 30 j1 (G 21 j1)) 21 j1 (nI 3)) g)) (rs_20_11 hR))
  refine pW_eq 3 (pc' := 26) (L' := [some (pm_r 20 0), some (pm_i v1)]) (S' := []) (M' := (mm x R Z Y o A c (pm_v (pm_v (pm_v G 30 j1 (G 21 j1)) 21 j1 (nI 3)) 31 j1 (nI 0)) g)) (fun call n => ?_) ?_
  · refine Eq.trans (b := pm_g (mm x R Z Y o A c (pm_v (pm_v G 30 j1 (G 21 j1)) 21 j1 (nI 3)) g) 31 0 (pm_ix (v1) 8 (fun jx => pm_bo (nI 0) (pm_go call ns d 58 n 26 [some (pm_r 20 0), some (pm_i v1)] [] (pm_u (mA Z A (pm_v (pm_v G 30 j1 (G 21 j1)) 21 j1 (nI 3))) 31 0 jx (nI 0), mB Y o c g, R, pm_tot, x))))) rfl ?_
    refine (g_ok (f := 31) (by decide) rfl).trans ?_
    refine (ix_ok (j := j1) e1 l1 (by decide)).trans ?_
    refine (bo_ok (by decide)).trans ?_
    exact (congrArg (fun z => pm_go call ns d 58 n 26 [some (pm_r 20 0), some (pm_i v1)] [] (z, mB Y o c g, R, pm_tot, x)) (uG (by decide)))
  refine pW_eq 3 (pc' := 31) (L' := [some (pm_r 20 0), some (pm_i v1)]) (S' := [pm_r 22 0, pm_r 20 0]) (M' := (mm x R Z Y o A c (pm_v (pm_v (pm_v G 30 j1 (G 21 j1)) 21 j1 (nI 3)) 31 j1 (nI 0)) g)) (fun call n => ?_) ?_
  · refine Eq.trans (b := pm_g (mm x R Z Y o A c (pm_v (pm_v (pm_v G 30 j1 (G 21 j1)) 21 j1 (nI 3)) 31 j1 (nI 0)) g) 20 0 (pm_go call ns d 58 n 31 [some (pm_r 20 0), some (pm_i v1)] [pm_a (R 20 0 2), pm_r 20 0] (mm x R Z Y o A c (pm_v (pm_v (pm_v G 30 j1 (G 21 j1)) 21 j1 (nI 3)) 31 j1 (nI 0)) g))) rfl ?_
    refine (g_ok (f := 20) (by decide) rfl).trans ?_
    exact (congrArg (fun z => pm_go call ns d 58 n 31 [some (pm_r 20 0), some (pm_i v1)] [pm_a z, pm_r 20 0] (mm x R Z Y o A c (pm_v (pm_v (pm_v G 30 j1 (G 21 j1)) 21 j1 (nI 3)) 31 j1 (nI 0)) g)) (rs_20_2 hR))
  refine pW_eq 2 (pc' := 33) (L' := [some (pm_r 20 0), some (pm_i v1)]) (S' := [pm_i ((pm_v (pm_v (pm_v G 30 j1 (G 21 j1)) 21 j1 (nI 3)) 31 j1 (nI 0)) 22 j1), pm_r 20 0]) (M' := (mm x R Z Y o A c (pm_v (pm_v (pm_v G 30 j1 (G 21 j1)) 21 j1 (nI 3)) 31 j1 (nI 0)) g)) (fun call n => ?_) ?_
  · refine Eq.trans (b := pm_g (mm x R Z Y o A c (pm_v (pm_v (pm_v G 30 j1 (G 21 j1)) 21 j1 (nI 3)) 31 j1 (nI 0)) g) 22 0 (pm_ix (v1) 8 (fun jx => pm_go call ns d 58 n 33 [some (pm_r 20 0), some (pm_i v1)] [pm_i ((pm_v (pm_v (pm_v G 30 j1 (G 21 j1)) 21 j1 (nI 3)) 31 j1 (nI 0)) 22 jx), pm_r 20 0] (mm x R Z Y o A c (pm_v (pm_v (pm_v G 30 j1 (G 21 j1)) 21 j1 (nI 3)) 31 j1 (nI 0)) g)))) rfl ?_
    refine (g_ok (f := 22) (by decide) rfl).trans ?_
    refine (ix_ok (j := j1) e1 l1 (by decide)).trans ?_
    rfl
  refine pW_call (pc' := 33) (r := []) (L' := [some (pm_r 20 0), some (pm_i v1)]) 1 (fun call n => ?_) hE k
  exact Eq.trans (b := pm_g (mm x R Z Y o A c (pm_v (pm_v (pm_v G 30 j1 (G 21 j1)) 21 j1 (nI 3)) 31 j1 (nI 0)) g) 20 0 (pm_cl call 58 (pm_go call ns d 58 n) 33 57 [pm_r 20 0, pm_i ((pm_v (pm_v (pm_v G 30 j1 (G 21 j1)) 21 j1 (nI 3)) 31 j1 (nI 0)) 22 j1)] [] [some (pm_r 20 0), some (pm_i v1)] (mm x R Z Y o A c (pm_v (pm_v (pm_v G 30 j1 (G 21 j1)) 21 j1 (nI 3)) 31 j1 (nI 0)) g))) rfl (g_ok (f := 20) (by decide) rfl)
set_option maxRecDepth 20000 in
theorem b58_36 (hR : RS R) {u0 : Option pm_V} {u1 : Option pm_V}   (k : Q (.inl none, (mm x R Z Y o A c G g))) : pW ns d 58 36 [u0, u1] [] (mm x R Z Y o A c G g) Q := by
  refine pW_ret 1 (fun call n => ?_) k
  rfl
/-! 59 JobLayerModel.finish -/
set_option maxRecDepth 20000 in
theorem b59_0 (hR : RS R) {v1 : Int32} {v2 : Int32} {u3 : Option pm_V}   (k : pW ns d 59 2 [some (pm_r 20 0), some (pm_i v1), some (pm_i v2), some (pm_i (nI 0))] [] (mm x R Z Y o A c G g) Q) : pW ns d 59 0 [some (pm_r 20 0), some (pm_i v1), some (pm_i v2), u3] [] (mm x R Z Y o A c G g) Q := by
  exact pW_eq 2 (fun call n => rfl) k
set_option maxRecDepth 20000 in
theorem b59_2 (hR : RS R) {v1 : Int32} {v2 : Int32} {v3 : Int32}   (k1 : nI 6 ≤ v3 → pW ns d 59 26 [some (pm_r 20 0), some (pm_i v1), some (pm_i v2), some (pm_i v3)] [] (mm x R Z Y o A c G g) Q) (k2 : ¬ (nI 6 ≤ v3) → pW ns d 59 8 [some (pm_r 20 0), some (pm_i v1), some (pm_i v2), some (pm_i v3)] [] (mm x R Z Y o A c G g) Q) : pW ns d 59 2 [some (pm_r 20 0), some (pm_i v1), some (pm_i v2), some (pm_i v3)] [] (mm x R Z Y o A c G g) Q := by
  exact pW_if 3 (c := nI 6 ≤ v3) (fun call n => rfl) k1 k2
set_option maxRecDepth 20000 in
theorem b59_26 (hR : RS R) {v1 : Int32} {v2 : Int32} {u3 : Option pm_V}   (k : pW ns d 59 28 [some (pm_r 20 0), some (pm_i v1), some (pm_i v2), some (pm_i (nI 1))] [] (mm x R Z Y o A c G g) Q) : pW ns d 59 26 [some (pm_r 20 0), some (pm_i v1), some (pm_i v2), u3] [] (mm x R Z Y o A c G g) Q := by
  exact pW_eq 2 (fun call n => rfl) k
set_option maxRecDepth 20000 in
theorem b59_8 (hR : RS R) {v1 : Int32} {v2 : Int32} {v3 : Int32} {j1 : Nat} (e1 : ((nI 6) * v1) + v3 = nI j1) (l1 : j1 < 48)  (k : pW ns d 59 2 [some (pm_r 20 0), some (pm_i v1), some (pm_i v2), some (pm_i (v3 + (nI 1)))] [] (mm x R Z Y o A c (pm_v G 32 j1 (nI 0)) g) Q) : pW ns d 59 8 [some (pm_r 20 0), some (pm_i v1), some (pm_i v2), some (pm_i v3)] [] (mm x R Z Y o A c G g) Q := by
  refine pW_eq 2 (pc' := 12) (L' := [some (pm_r 20 0), some (pm_i v1), some (pm_i v2), some (pm_i v3)]) (S' := [pm_r 32 0]) (M' := (mm x R Z Y o A c G g)) (fun call n => ?_) ?_
  · refine Eq.trans (b := pm_g (mm x R Z Y o A c G g) 20 0 (pm_go call ns d 59 n 12 [some (pm_r 20 0), some (pm_i v1), some (pm_i v2), some (pm_i v3)] [pm_a (R 20 0 12)] (mm x R Z Y o A c G g))) rfl ?_
    refine (g_ok (f := 20) (by decide) rfl).trans ?_
    exact (congrArg (fun z => pm_go call ns d 59 n 12 [some (pm_r 20 0), some (pm_i v1), some (pm_i v2), some (pm_i v3)] [pm_a z] (mm x R Z Y o A c G g)) (rs_20_12 hR))
  refine pW_eq 7 (pc' := 20) (L' := [some (pm_r 20 0), some (pm_i v1), some (pm_i v2), some (pm_i v3)]) (S' := []) (M' := (mm x R Z Y o A c (pm_v G 32 j1 (nI 0)) g)) (fun call n => ?_) ?_
  · refine Eq.trans (b := pm_g (mm x R Z Y o A c G g) 32 0 (pm_ix (((nI 6) * v1) + v3) 48 (fun jx => pm_go call ns d 59 n 20 [some (pm_r 20 0), some (pm_i v1), some (pm_i v2), some (pm_i v3)] [] (pm_u (mA Z A G) 32 0 jx (nI 0), mB Y o c g, R, pm_tot, x)))) rfl ?_
    refine (g_ok (f := 32) (by decide) rfl).trans ?_
    refine (ix_ok (j := j1) e1 l1 (by decide)).trans ?_
    exact (congrArg (fun z => pm_go call ns d 59 n 20 [some (pm_r 20 0), some (pm_i v1), some (pm_i v2), some (pm_i v3)] [] (z, mB Y o c g, R, pm_tot, x)) (uG (by decide)))
  exact pW_eq 2 (fun call n => rfl) k
set_option maxRecDepth 20000 in
theorem b59_28 (hR : RS R) {v1 : Int32} {v2 : Int32} {v3 : Int32}   (k1 : nI 8 ≤ v3 → pW ns d 59 75 [some (pm_r 20 0), some (pm_i v1), some (pm_i v2), some (pm_i v3)] [] (mm x R Z Y o A c G g) Q) (k2 : ¬ (nI 8 ≤ v3) → pW ns d 59 34 [some (pm_r 20 0), some (pm_i v1), some (pm_i v2), some (pm_i v3)] [] (mm x R Z Y o A c G g) Q) : pW ns d 59 28 [some (pm_r 20 0), some (pm_i v1), some (pm_i v2), some (pm_i v3)] [] (mm x R Z Y o A c G g) Q := by
  exact pW_if 3 (c := nI 8 ≤ v3) (fun call n => rfl) k1 k2
set_option maxRecDepth 20000 in
theorem b59_75 (hR : RS R) {v1 : Int32} {v2 : Int32} {u3 : Option pm_V} {j1 : Nat} {j2 : Nat} (e1 : v1 = nI j1) (l1 : j1 < 8) (e2 : ((nI 8) * (G 22 j1)) + (nI 7) = nI j2) (l2 : j2 < 64)  (k1 : G 33 j2 = nI 1 → pW ns d 59 103 [some (pm_r 20 0), some (pm_i v1), some (pm_i v2), some (pm_i (G 22 j1))] [pm_i v1, pm_r 21 0] (mm x R Z Y o A c G g) Q) (k2 : ¬ (G 33 j2 = nI 1) → pW ns d 59 107 [some (pm_r 20 0), some (pm_i v1), some (pm_i v2), some (pm_i (G 22 j1))] [pm_i v1, pm_r 21 0] (mm x R Z Y o A c G g) Q) : pW ns d 59 75 [some (pm_r 20 0), some (pm_i v1), some (pm_i v2), u3] [] (mm x R Z Y o A c G g) Q := by
  refine pW_eq 2 (pc' := 79) (L' := [some (pm_r 20 0), some (pm_i v1), some (pm_i v2), u3]) (S' := [pm_r 22 0]) (M' := (mm x R Z Y o A c G g)) (fun call n => ?_) ?_
  · refine Eq.trans (b := pm_g (mm x R Z Y o A c G g) 20 0 (pm_go call ns d 59 n 79 [some (pm_r 20 0), some (pm_i v1), some (pm_i v2), u3] [pm_a (R 20 0 2)] (mm x R Z Y o A c G g))) rfl ?_
    refine (g_ok (f := 20) (by decide) rfl).trans ?_
    exact (congrArg (fun z => pm_go call ns d 59 n 79 [some (pm_r 20 0), some (pm_i v1), some (pm_i v2), u3] [pm_a z] (mm x R Z Y o A c G g)) (rs_20_2 hR))
  refine pW_eq 2 (pc' := 81) (L' := [some (pm_r 20 0), some (pm_i v1), some (pm_i v2), u3]) (S' := [pm_i (G 22 j1)]) (M' := (mm x R Z Y o A c G g)) (fun call n => ?_) ?_
  · refine Eq.trans (b := pm_g (mm x R Z Y o A c G g) 22 0 (pm_ix (v1) 8 (fun jx => pm_go call ns d 59 n 81 [some (pm_r 20 0), some (pm_i v1), some (pm_i v2), u3] [pm_i (G 22 jx)] (mm x R Z Y o A c G g)))) rfl ?_
    refine (g_ok (f := 22) (by decide) rfl).trans ?_
    refine (ix_ok (j := j1) e1 l1 (by decide)).trans ?_
    rfl
  refine pW_eq 3 (pc' := 86) (L' := [some (pm_r 20 0), some (pm_i v1), some (pm_i v2), some (pm_i (G 22 j1))]) (S' := [pm_r 21 0]) (M' := (mm x R Z Y o A c G g)) (fun call n => ?_) ?_
  · refine Eq.trans (b := pm_g (mm x R Z Y o A c G g) 20 0 (pm_go call ns d 59 n 86 [some (pm_r 20 0), some (pm_i v1), some (pm_i v2), some (pm_i (G 22 j1))] [pm_a (R 20 0 1)] (mm x R Z Y o A c G g))) rfl ?_
    refine (g_ok (f := 20) (by decide) rfl).trans ?_
    exact (congrArg (fun z => pm_go call ns d 59 n 86 [some (pm_r 20 0), some (pm_i v1), some (pm_i v2), some (pm_i (G 22 j1))] [pm_a z] (mm x R Z Y o A c G g)) (rs_20_1 hR))
  refine pW_eq 3 (pc' := 91) (L' := [some (pm_r 20 0), some (pm_i v1), some (pm_i v2), some (pm_i (G 22 j1))]) (S' := [pm_r 33 0, pm_i v1, pm_r 21 0]) (M' := (mm x R Z Y o A c G g)) (fun call n => ?_) ?_
  · refine Eq.trans (b := pm_g (mm x R Z Y o A c G g) 20 0 (pm_go call ns d 59 n 91 [some (pm_r 20 0), some (pm_i v1), some (pm_i v2), some (pm_i (G 22 j1))] [pm_a (R 20 0 13), pm_i v1, pm_r 21 0] (mm x R Z Y o A c G g))) rfl ?_
    refine (g_ok (f := 20) (by decide) rfl).trans ?_
    exact (congrArg (fun z => pm_go call ns d 59 n 91 [some (pm_r 20 0), some (pm_i v1), some (pm_i v2), some (pm_i (G 22 j1))] [pm_a z, pm_i v1, pm_r 21 0] (mm x R Z Y o A c G g)) (rs_20_13 hR))
  refine pW_eq 6 (pc' := 99) (L' := [some (pm_r 20 0), some (pm_i v1), some (pm_i v2), some (pm_i (G 22 j1))]) (S' := [pm_i (G 33 j2), pm_i v1, pm_r 21 0]) (M' := (mm x R Z Y o A c G g)) (fun call n => ?_) ?_
  · refine Eq.trans (b := pm_g (mm x R Z Y o A c G g) 33 0 (pm_ix (((nI 8) * (G 22 j1)) + (nI 7)) 64 (fun jx => pm_go call ns d 59 n 99 [some (pm_r 20 0), some (pm_i v1), some (pm_i v2), some (pm_i (G 22 j1))] [pm_i (G 33 jx), pm_i v1, pm_r 21 0] (mm x R Z Y o A c G g)))) rfl ?_
    refine (g_ok (f := 33) (by decide) rfl).trans ?_
    refine (ix_ok (j := j2) e2 l2 (by decide)).trans ?_
    rfl
  exact pW_if 2 (c := G 33 j2 = nI 1) (fun call n => rfl) k1 k2
set_option maxRecDepth 20000 in
theorem b59_34 (hR : RS R) {v1 : Int32} {v2 : Int32} {v3 : Int32} {j1 : Nat} (e1 : v3 = nI j1) (l1 : j1 < 8)  (k1 : G 21 j1 = 0 → pW ns d 59 62 [some (pm_r 20 0), some (pm_i v1), some (pm_i v2), some (pm_i v3)] [pm_i v3, pm_r 22 0] (mm x R Z Y o A c G g) Q) (k2 : ¬ (G 21 j1 = 0) → pW ns d 59 48 [some (pm_r 20 0), some (pm_i v1), some (pm_i v2), some (pm_i v3)] [pm_i v3, pm_r 22 0] (mm x R Z Y o A c G g) Q) : pW ns d 59 34 [some (pm_r 20 0), some (pm_i v1), some (pm_i v2), some (pm_i v3)] [] (mm x R Z Y o A c G g) Q := by
  refine pW_eq 2 (pc' := 38) (L' := [some (pm_r 20 0), some (pm_i v1), some (pm_i v2), some (pm_i v3)]) (S' := [pm_r 22 0]) (M' := (mm x R Z Y o A c G g)) (fun call n => ?_) ?_
  · refine Eq.trans (b := pm_g (mm x R Z Y o A c G g) 20 0 (pm_go call ns d 59 n 38 [some (pm_r 20 0), some (pm_i v1), some (pm_i v2), some (pm_i v3)] [pm_a (R 20 0 2)] (mm x R Z Y o A c G g))) rfl ?_
    refine (g_ok (f := 20) (by decide) rfl).trans ?_
    exact (congrArg (fun z => pm_go call ns d 59 n 38 [some (pm_r 20 0), some (pm_i v1), some (pm_i v2), some (pm_i v3)] [pm_a z] (mm x R Z Y o A c G g)) (rs_20_2 hR))
  refine pW_eq 3 (pc' := 43) (L' := [some (pm_r 20 0), some (pm_i v1), some (pm_i v2), some (pm_i v3)]) (S' := [pm_r 21 0, pm_i v3, pm_r 22 0]) (M' := (mm x R Z Y o A c G g)) (fun call n => ?_) ?_
  · refine Eq.trans (b := pm_g (mm x R Z Y o A c G g) 20 0 (pm_go call ns d 59 n 43 [some (pm_r 20 0), some (pm_i v1), some (pm_i v2), some (pm_i v3)] [pm_a (R 20 0 1), pm_i v3, pm_r 22 0] (mm x R Z Y o A c G g))) rfl ?_
    refine (g_ok (f := 20) (by decide) rfl).trans ?_
    exact (congrArg (fun z => pm_go call ns d 59 n 43 [some (pm_r 20 0), some (pm_i v1), some (pm_i v2), some (pm_i v3)] [pm_a z, pm_i v3, pm_r 22 0] (mm x R Z Y o A c G g)) (rs_20_1 hR))
  refine pW_eq 2 (pc' := 45) (L' := [some (pm_r 20 0), some (pm_i v1), some (pm_i v2), some (pm_i v3)]) (S' := [pm_i (G 21 j1), pm_i v3, pm_r 22 0]) (M' := (mm x R Z Y o A c G g)) (fun call n => ?_) ?_
  · refine Eq.trans (b := pm_g (mm x R Z Y o A c G g) 21 0 (pm_ix (v3) 8 (fun jx => pm_go call ns d 59 n 45 [some (pm_r 20 0), some (pm_i v1), some (pm_i v2), some (pm_i v3)] [pm_i (G 21 jx), pm_i v3, pm_r 22 0] (mm x R Z Y o A c G g)))) rfl ?_
    refine (g_ok (f := 21) (by decide) rfl).trans ?_
    refine (ix_ok (j := j1) e1 l1 (by decide)).trans ?_
    rfl
  exact pW_if 1 (c := G 21 j1 = 0) (fun call n => rfl) k1 k2
set_option maxRecDepth 20000 in
theorem b59_103 (hR : RS R) {v1 : Int32} {v2 : Int32} {v3 : Int32} {vs0 : Int32} {j1 : Nat} {j2 : Nat} (e1 : vs0 = nI j1) (l1 : j1 < 8) (e2 : v1 = nI j2) (l2 : j2 < 8) {x2 : Nat} {o2 : Int64} {A2 : Nat → Nat → Nat → Int32} {c2 : Nat → Int64} {G2 : Nat → Nat → Int32} {g2 : Nat → Int64}  (hE : pE ns d 57 [pm_r 20 0, pm_i v3] (mm x R Z Y o A c (pm_v (pm_v (pm_v (pm_v G 21 j1 (nI 0)) 29 j2 v2) 25 j2 (nI 0)) 34 j2 (nI 0)) g) (.inl (none), (mm x2 R Z Y o2 A2 c2 G2 g2))) (k : pW ns d 59 135 [some (pm_r 20 0), some (pm_i v1), some (pm_i v2), some (pm_i v3)] [] (mm x2 R Z Y o2 A2 c2 G2 g2) Q) : pW ns d 59 103 [some (pm_r 20 0), some (pm_i v1), some (pm_i v2), some (pm_i v3)] [pm_i vs0, pm_r 21 0] (mm x R Z Y o A c G g) Q := by
  refine pW_eq 3 (pc' := 109) (L' := [some (pm_r 20 0), some (pm_i v1), some (pm_i v2), some (pm_i v3)]) (S' := []) (M' := (mm x R Z Y o A c (pm_v G 21 j1 (nI 0)) g)) (fun call n => ?_) ?_
  · refine Eq.trans (b := pm_g (mm x R Z Y o A c G g) 21 0 (pm_ix (vs0) 8 (fun jx => pm_go call ns d 59 n 109 [some (pm_r 20 0), some (pm_i v1), some (pm_i v2), some (pm_i v3)] [] (pm_u (mA Z A G) 21 0 jx (nI 0), mB Y o c g, R, pm_tot, x)))) rfl ?_
    refine (g_ok (f := 21) (by decide) rfl).trans ?_
    refine (ix_ok (j := j1) e1 l1 (by decide)).trans ?_
    exact (congrArg (fun z => pm_go call ns d 59 n 109 [some (pm_r 20 0), some (pm_i v1), some (pm_i v2), some (pm_i v3)] [] (z, mB Y o c g, R, pm_tot, x)) (uG (by decide)))
  refine pW_eq 2 (pc' := 113) (L' := [some (pm_r 20 0), some (pm_i v1), some (pm_i v2), some (pm_i v3)]) (S' := [pm_r 29 0]) (M' := (mm x R Z Y o A c (pm_v G 21 j1 (nI 0)) g)) (fun call n => ?_) ?_
  · refine Eq.trans (b := pm_g (mm x R Z Y o A c (pm_v G 21 j1 (nI 0)) g) 20 0 (pm_go call ns d 59 n 113 [some (pm_r 20 0), some (pm_i v1), some (pm_i v2), some (pm_i v3)] [pm_a (R 20 0 9)] (mm x R Z Y o A c (pm_v G 21 j1 (nI 0)) g))) rfl ?_
    refine (g_ok (f := 20) (by decide) rfl).trans ?_
    exact (congrArg (fun z => pm_go call ns d 59 n 113 [some (pm_r 20 0), some (pm_i v1), some (pm_i v2), some (pm_i v3)] [pm_a z] (mm x R Z Y o A c (pm_v G 21 j1 (nI 0)) g)) (rs_20_9 hR))
  refine pW_eq 3 (pc' := 116) (L' := [some (pm_r 20 0), some (pm_i v1), some (pm_i v2), some (pm_i v3)]) (S' := []) (M' := (mm x R Z Y o A c (pm_v (pm_v G 21 j1 (nI 0)) 29 j2 v2) g)) (fun call n => ?_) ?_
  · refine Eq.trans (b := pm_g (mm x R Z Y o A c (pm_v G 21 j1 (nI 0)) g) 29 0 (pm_ix (v1) 8 (fun jx => pm_go call ns d 59 n 116 [some (pm_r 20 0), some (pm_i v1), some (pm_i v2), some (pm_i v3)] [] (pm_u (mA Z A (pm_v G 21 j1 (nI 0))) 29 0 jx v2, mB Y o c g, R, pm_tot, x)))) rfl ?_
    refine (g_ok (f := 29) (by decide) rfl).trans ?_
    refine (ix_ok (j := j2) e2 l2 (by decide)).trans ?_
    exact (congrArg (fun z => pm_go call ns d 59 n 116 [some (pm_r 20 0), some (pm_i v1), some (pm_i v2), some (pm_i v3)] [] (z, mB Y o c g, R, pm_tot, x)) (uG (by decide)))
  refine pW_eq 2 (pc' := 120) (L' := [some (pm_r 20 0), some (pm_i v1), some (pm_i v2), some (pm_i v3)]) (S' := [pm_r 25 0]) (M' := (mm x R Z Y o A c (pm_v (pm_v G 21 j1 (nI 0)) 29 j2 v2) g)) (fun call n => ?_) ?_
  · refine Eq.trans (b := pm_g (mm x R Z Y o A c (pm_v (pm_v G 21 j1 (nI 0)) 29 j2 v2) g) 20 0 (pm_go call ns d 59 n 120 [some (pm_r 20 0), some (pm_i v1), some (pm_i v2), some (pm_i v3)] [pm_a (R 20 0 5)] (mm x R Z Y o A c (pm_v (pm_v G 21 j1 (nI 0)) 29 j2 v2) g))) rfl ?_
    refine (g_ok (f := 20) (by decide) rfl).trans ?_
    exact (congrArg (fun z => pm_go call ns d 59 n 120 [some (pm_r 20 0), some (pm_i v1), some (pm_i v2), some (pm_i v3)] [pm_a z] (mm x R Z Y o A c (pm_v (pm_v G 21 j1 (nI 0)) 29 j2 v2) g)) (rs_20_5 hR))
  refine pW_eq 3 (pc' := 123) (L' := [some (pm_r 20 0), some (pm_i v1), some (pm_i v2), some (pm_i v3)]) (S' := []) (M' := (mm x R Z Y o A c (pm_v (pm_v (pm_v G 21 j1 (nI 0)) 29 j2 v2) 25 j2 (nI 0)) g)) (fun call n => ?_) ?_
  · refine Eq.trans (b := pm_g (mm x R Z Y o A c (pm_v (pm_v G 21 j1 (nI 0)) 29 j2 v2) g) 25 0 (pm_ix (v1) 8 (fun jx => pm_go call ns d 59 n 123 [some (pm_r 20 0), some (pm_i v1), some (pm_i v2), some (pm_i v3)] [] (pm_u (mA Z A (pm_v (pm_v G 21 j1 (nI 0)) 29 j2 v2)) 25 0 jx (nI 0), mB Y o c g, R, pm_tot, x)))) rfl ?_
    refine (g_ok (f := 25) (by decide) rfl).trans ?_
    refine (ix_ok (j := j2) e2 l2 (by decide)).trans ?_
    exact (congrArg (fun z => pm_go call ns d 59 n 123 [some (pm_r 20 0), some (pm_i v1), some (pm_i v2), some (pm_i v3)] [] (z, mB Y o c g, R, pm_tot, x)) (uG (by decide)))
  refine pW_eq 2 (pc' := 127) (L' := [some (pm_r 20 0), some (pm_i v1), some (pm_i v2), some (pm_i v3)]) (S' := [pm_r 34 0]) (M' := (mm x R Z Y o A c (pm_v (pm_v (pm_v G 21 j1 (nI 0)) 29 j2 v2) 25 j2 (nI 0)) g)) (fun call n => ?_) ?_
  · refine Eq.trans (b := pm_g (mm x R Z Y o A c (pm_v (pm_v (pm_v G 21 j1 (nI 0)) 29 j2 v2) 25 j2 (nI 0)) g) 20 0 (pm_go call ns d 59 n 127 [some (pm_r 20 0), some (pm_i v1), some (pm_i v2), some (pm_i v3)] [pm_a (R 20 0 14)] (mm x R Z Y o A c (pm_v (pm_v (pm_v G 21 j1 (nI 0)) 29 j2 v2) 25 j2 (nI 0)) g))) rfl ?_
    refine (g_ok (f := 20) (by decide) rfl).trans ?_
    exact (congrArg (fun z => pm_go call ns d 59 n 127 [some (pm_r 20 0), some (pm_i v1), some (pm_i v2), some (pm_i v3)] [pm_a z] (mm x R Z Y o A c (pm_v (pm_v (pm_v G 21 j1 (nI 0)) 29 j2 v2) 25 j2 (nI 0)) g)) (rs_20_14 hR))
  refine pW_eq 3 (pc' := 130) (L' := [some (pm_r 20 0), some (pm_i v1), some (pm_i v2), some (pm_i v3)]) (S' := []) (M' := (mm x R Z Y o A c (pm_v (pm_v (pm_v (pm_v G 21 j1 (nI 0)) 29 j2 v2) 25 j2 (nI 0)) 34 j2 (nI 0)) g)) (fun call n => ?_) ?_
  · refine Eq.trans (b := pm_g (mm x R Z Y o A c (pm_v (pm_v (pm_v G 21 j1 (nI 0)) 29 j2 v2) 25 j2 (nI 0)) g) 34 0 (pm_ix (v1) 8 (fun jx => pm_go call ns d 59 n 130 [some (pm_r 20 0), some (pm_i v1), some (pm_i v2), some (pm_i v3)] [] (pm_u (mA Z A (pm_v (pm_v (pm_v G 21 j1 (nI 0)) 29 j2 v2) 25 j2 (nI 0))) 34 0 jx (nI 0), mB Y o c g, R, pm_tot, x)))) rfl ?_
    refine (g_ok (f := 34) (by decide) rfl).trans ?_
    refine (ix_ok (j := j2) e2 l2 (by decide)).trans ?_
    exact (congrArg (fun z => pm_go call ns d 59 n 130 [some (pm_r 20 0), some (pm_i v1), some (pm_i v2), some (pm_i v3)] [] (z, mB Y o c g, R, pm_tot, x)) (uG (by decide)))
  refine pW_call (pc' := 132) (r := []) (L' := [some (pm_r 20 0), some (pm_i v1), some (pm_i v2), some (pm_i v3)]) 3 (fun call n => ?_) hE k
  exact Eq.trans (b := pm_g (mm x R Z Y o A c (pm_v (pm_v (pm_v (pm_v G 21 j1 (nI 0)) 29 j2 v2) 25 j2 (nI 0)) 34 j2 (nI 0)) g) 20 0 (pm_cl call 59 (pm_go call ns d 59 n) 132 57 [pm_r 20 0, pm_i v3] [] [some (pm_r 20 0), some (pm_i v1), some (pm_i v2), some (pm_i v3)] (mm x R Z Y o A c (pm_v (pm_v (pm_v (pm_v G 21 j1 (nI 0)) 29 j2 v2) 25 j2 (nI 0)) 34 j2 (nI 0)) g))) rfl (g_ok (f := 20) (by decide) rfl)
set_option maxRecDepth 20000 in
theorem b59_107 (hR : RS R) {v1 : Int32} {v2 : Int32} {v3 : Int32} {vs0 : Int32} {j1 : Nat} {j2 : Nat} (e1 : vs0 = nI j1) (l1 : j1 < 8) (e2 : v1 = nI j2) (l2 : j2 < 8) {x2 : Nat} {o2 : Int64} {A2 : Nat → Nat → Nat → Int32} {c2 : Nat → Int64} {G2 : Nat → Nat → Int32} {g2 : Nat → Int64}  (hE : pE ns d 57 [pm_r 20 0, pm_i v3] (mm x R Z Y o A c (pm_v (pm_v (pm_v (pm_v G 21 j1 (nI 4)) 29 j2 v2) 25 j2 (nI 0)) 34 j2 (nI 0)) g) (.inl (none), (mm x2 R Z Y o2 A2 c2 G2 g2))) (k : pW ns d 59 135 [some (pm_r 20 0), some (pm_i v1), some (pm_i v2), some (pm_i v3)] [] (mm x2 R Z Y o2 A2 c2 G2 g2) Q) : pW ns d 59 107 [some (pm_r 20 0), some (pm_i v1), some (pm_i v2), some (pm_i v3)] [pm_i vs0, pm_r 21 0] (mm x R Z Y o A c G g) Q := by
  refine pW_eq 2 (pc' := 109) (L' := [some (pm_r 20 0), some (pm_i v1), some (pm_i v2), some (pm_i v3)]) (S' := []) (M' := (mm x R Z Y o A c (pm_v G 21 j1 (nI 4)) g)) (fun call n => ?_) ?_
  · refine Eq.trans (b := pm_g (mm x R Z Y o A c G g) 21 0 (pm_ix (vs0) 8 (fun jx => pm_go call ns d 59 n 109 [some (pm_r 20 0), some (pm_i v1), some (pm_i v2), some (pm_i v3)] [] (pm_u (mA Z A G) 21 0 jx (nI 4), mB Y o c g, R, pm_tot, x)))) rfl ?_
    refine (g_ok (f := 21) (by decide) rfl).trans ?_
    refine (ix_ok (j := j1) e1 l1 (by decide)).trans ?_
    exact (congrArg (fun z => pm_go call ns d 59 n 109 [some (pm_r 20 0), some (pm_i v1), some (pm_i v2), some (pm_i v3)] [] (z, mB Y o c g, R, pm_tot, x)) (uG (by decide)))
  refine pW_eq 2 (pc' := 113) (L' := [some (pm_r 20 0), some (pm_i v1), some (pm_i v2), some (pm_i v3)]) (S' := [pm_r 29 0]) (M' := (mm x R Z Y o A c (pm_v G 21 j1 (nI 4)) g)) (fun call n => ?_) ?_
  · refine Eq.trans (b := pm_g (mm x R Z Y o A c (pm_v G 21 j1 (nI 4)) g) 20 0 (pm_go call ns d 59 n 113 [some (pm_r 20 0), some (pm_i v1), some (pm_i v2), some (pm_i v3)] [pm_a (R 20 0 9)] (mm x R Z Y o A c (pm_v G 21 j1 (nI 4)) g))) rfl ?_
    refine (g_ok (f := 20) (by decide) rfl).trans ?_
    exact (congrArg (fun z => pm_go call ns d 59 n 113 [some (pm_r 20 0), some (pm_i v1), some (pm_i v2), some (pm_i v3)] [pm_a z] (mm x R Z Y o A c (pm_v G 21 j1 (nI 4)) g)) (rs_20_9 hR))
  refine pW_eq 3 (pc' := 116) (L' := [some (pm_r 20 0), some (pm_i v1), some (pm_i v2), some (pm_i v3)]) (S' := []) (M' := (mm x R Z Y o A c (pm_v (pm_v G 21 j1 (nI 4)) 29 j2 v2) g)) (fun call n => ?_) ?_
  · refine Eq.trans (b := pm_g (mm x R Z Y o A c (pm_v G 21 j1 (nI 4)) g) 29 0 (pm_ix (v1) 8 (fun jx => pm_go call ns d 59 n 116 [some (pm_r 20 0), some (pm_i v1), some (pm_i v2), some (pm_i v3)] [] (pm_u (mA Z A (pm_v G 21 j1 (nI 4))) 29 0 jx v2, mB Y o c g, R, pm_tot, x)))) rfl ?_
    refine (g_ok (f := 29) (by decide) rfl).trans ?_
    refine (ix_ok (j := j2) e2 l2 (by decide)).trans ?_
    exact (congrArg (fun z => pm_go call ns d 59 n 116 [some (pm_r 20 0), some (pm_i v1), some (pm_i v2), some (pm_i v3)] [] (z, mB Y o c g, R, pm_tot, x)) (uG (by decide)))
  refine pW_eq 2 (pc' := 120) (L' := [some (pm_r 20 0), some (pm_i v1), some (pm_i v2), some (pm_i v3)]) (S' := [pm_r 25 0]) (M' := (mm x R Z Y o A c (pm_v (pm_v G 21 j1 (nI 4)) 29 j2 v2) g)) (fun call n => ?_) ?_
  · refine Eq.trans (b := pm_g (mm x R Z Y o A c (pm_v (pm_v G 21 j1 (nI 4)) 29 j2 v2) g) 20 0 (pm_go call ns d 59 n 120 [some (pm_r 20 0), some (pm_i v1), some (pm_i v2), some (pm_i v3)] [pm_a (R 20 0 5)] (mm x R Z Y o A c (pm_v (pm_v G 21 j1 (nI 4)) 29 j2 v2) g))) rfl ?_
    refine (g_ok (f := 20) (by decide) rfl).trans ?_
    exact (congrArg (fun z => pm_go call ns d 59 n 120 [some (pm_r 20 0), some (pm_i v1), some (pm_i v2), some (pm_i v3)] [pm_a z] (mm x R Z Y o A c (pm_v (pm_v G 21 j1 (nI 4)) 29 j2 v2) g)) (rs_20_5 hR))
  refine pW_eq 3 (pc' := 123) (L' := [some (pm_r 20 0), some (pm_i v1), some (pm_i v2), some (pm_i v3)]) (S' := []) (M' := (mm x R Z Y o A c (pm_v (pm_v (pm_v G 21 j1 (nI 4)) 29 j2 v2) 25 j2 (nI 0)) g)) (fun call n => ?_) ?_
  · refine Eq.trans (b := pm_g (mm x R Z Y o A c (pm_v (pm_v G 21 j1 (nI 4)) 29 j2 v2) g) 25 0 (pm_ix (v1) 8 (fun jx => pm_go call ns d 59 n 123 [some (pm_r 20 0), some (pm_i v1), some (pm_i v2), some (pm_i v3)] [] (pm_u (mA Z A (pm_v (pm_v G 21 j1 (nI 4)) 29 j2 v2)) 25 0 jx (nI 0), mB Y o c g, R, pm_tot, x)))) rfl ?_
    refine (g_ok (f := 25) (by decide) rfl).trans ?_
    refine (ix_ok (j := j2) e2 l2 (by decide)).trans ?_
    exact (congrArg (fun z => pm_go call ns d 59 n 123 [some (pm_r 20 0), some (pm_i v1), some (pm_i v2), some (pm_i v3)] [] (z, mB Y o c g, R, pm_tot, x)) (uG (by decide)))
  refine pW_eq 2 (pc' := 127) (L' := [some (pm_r 20 0), some (pm_i v1), some (pm_i v2), some (pm_i v3)]) (S' := [pm_r 34 0]) (M' := (mm x R Z Y o A c (pm_v (pm_v (pm_v G 21 j1 (nI 4)) 29 j2 v2) 25 j2 (nI 0)) g)) (fun call n => ?_) ?_
  · refine Eq.trans (b := pm_g (mm x R Z Y o A c (pm_v (pm_v (pm_v G 21 j1 (nI 4)) 29 j2 v2) 25 j2 (nI 0)) g) 20 0 (pm_go call ns d 59 n 127 [some (pm_r 20 0), some (pm_i v1), some (pm_i v2), some (pm_i v3)] [pm_a (R 20 0 14)] (mm x R Z Y o A c (pm_v (pm_v (pm_v G 21 j1 (nI 4)) 29 j2 v2) 25 j2 (nI 0)) g))) rfl ?_
    refine (g_ok (f := 20) (by decide) rfl).trans ?_
    exact (congrArg (fun z => pm_go call ns d 59 n 127 [some (pm_r 20 0), some (pm_i v1), some (pm_i v2), some (pm_i v3)] [pm_a z] (mm x R Z Y o A c (pm_v (pm_v (pm_v G 21 j1 (nI 4)) 29 j2 v2) 25 j2 (nI 0)) g)) (rs_20_14 hR))
  refine pW_eq 3 (pc' := 130) (L' := [some (pm_r 20 0), some (pm_i v1), some (pm_i v2), some (pm_i v3)]) (S' := []) (M' := (mm x R Z Y o A c (pm_v (pm_v (pm_v (pm_v G 21 j1 (nI 4)) 29 j2 v2) 25 j2 (nI 0)) 34 j2 (nI 0)) g)) (fun call n => ?_) ?_
  · refine Eq.trans (b := pm_g (mm x R Z Y o A c (pm_v (pm_v (pm_v G 21 j1 (nI 4)) 29 j2 v2) 25 j2 (nI 0)) g) 34 0 (pm_ix (v1) 8 (fun jx => pm_go call ns d 59 n 130 [some (pm_r 20 0), some (pm_i v1), some (pm_i v2), some (pm_i v3)] [] (pm_u (mA Z A (pm_v (pm_v (pm_v G 21 j1 (nI 4)) 29 j2 v2) 25 j2 (nI 0))) 34 0 jx (nI 0), mB Y o c g, R, pm_tot, x)))) rfl ?_
    refine (g_ok (f := 34) (by decide) rfl).trans ?_
    refine (ix_ok (j := j2) e2 l2 (by decide)).trans ?_
    exact (congrArg (fun z => pm_go call ns d 59 n 130 [some (pm_r 20 0), some (pm_i v1), some (pm_i v2), some (pm_i v3)] [] (z, mB Y o c g, R, pm_tot, x)) (uG (by decide)))
  refine pW_call (pc' := 132) (r := []) (L' := [some (pm_r 20 0), some (pm_i v1), some (pm_i v2), some (pm_i v3)]) 3 (fun call n => ?_) hE k
  exact Eq.trans (b := pm_g (mm x R Z Y o A c (pm_v (pm_v (pm_v (pm_v G 21 j1 (nI 4)) 29 j2 v2) 25 j2 (nI 0)) 34 j2 (nI 0)) g) 20 0 (pm_cl call 59 (pm_go call ns d 59 n) 132 57 [pm_r 20 0, pm_i v3] [] [some (pm_r 20 0), some (pm_i v1), some (pm_i v2), some (pm_i v3)] (mm x R Z Y o A c (pm_v (pm_v (pm_v (pm_v G 21 j1 (nI 4)) 29 j2 v2) 25 j2 (nI 0)) 34 j2 (nI 0)) g))) rfl (g_ok (f := 20) (by decide) rfl)
set_option maxRecDepth 20000 in
theorem b59_62 (hR : RS R) {v1 : Int32} {v2 : Int32} {v3 : Int32} {vs0 : Int32} {j1 : Nat} {j2 : Nat} (e1 : v3 = nI j1) (l1 : j1 < 8) (e2 : vs0 = nI j2) (l2 : j2 < 8)  (k : pW ns d 59 28 [some (pm_r 20 0), some (pm_i v1), some (pm_i v2), some (pm_i (v3 + (nI 1)))] [] (mm x R Z Y o A c (pm_v G 22 j2 (G 22 j1)) g) Q) : pW ns d 59 62 [some (pm_r 20 0), some (pm_i v1), some (pm_i v2), some (pm_i v3)] [pm_i vs0, pm_r 22 0] (mm x R Z Y o A c G g) Q := by
  refine pW_eq 2 (pc' := 66) (L' := [some (pm_r 20 0), some (pm_i v1), some (pm_i v2), some (pm_i v3)]) (S' := [pm_r 22 0, pm_i vs0, pm_r 22 0]) (M' := (mm x R Z Y o A c G g)) (fun call n => ?_) ?_
  · refine Eq.trans (b := pm_g (mm x R Z Y o A c G g) 20 0 (pm_go call ns d 59 n 66 [some (pm_r 20 0), some (pm_i v1), some (pm_i v2), some (pm_i v3)] [pm_a (R 20 0 2), pm_i vs0, pm_r 22 0] (mm x R Z Y o A c G g))) rfl ?_
    refine (g_ok (f := 20) (by decide) rfl).trans ?_
    exact (congrArg (fun z => pm_go call ns d 59 n 66 [some (pm_r 20 0), some (pm_i v1), some (pm_i v2), some (pm_i v3)] [pm_a z, pm_i vs0, pm_r 22 0] (mm x R Z Y o A c G g)) (rs_20_2 hR))
  refine pW_eq 2 (pc' := 68) (L' := [some (pm_r 20 0), some (pm_i v1), some (pm_i v2), some (pm_i v3)]) (S' := [pm_i (G 22 j1), pm_i vs0, pm_r 22 0]) (M' := (mm x R Z Y o A c G g)) (fun call n => ?_) ?_
  · refine Eq.trans (b := pm_g (mm x R Z Y o A c G g) 22 0 (pm_ix (v3) 8 (fun jx => pm_go call ns d 59 n 68 [some (pm_r 20 0), some (pm_i v1), some (pm_i v2), some (pm_i v3)] [pm_i (G 22 jx), pm_i vs0, pm_r 22 0] (mm x R Z Y o A c G g)))) rfl ?_
    refine (g_ok (f := 22) (by decide) rfl).trans ?_
    refine (ix_ok (j := j1) e1 l1 (by decide)).trans ?_
    rfl
  refine pW_eq 1 (pc' := 69) (L' := [some (pm_r 20 0), some (pm_i v1), some (pm_i v2), some (pm_i v3)]) (S' := []) (M' := (mm x R Z Y o A c (pm_v G 22 j2 (G 22 j1)) g)) (fun call n => ?_) ?_
  · refine Eq.trans (b := pm_g (mm x R Z Y o A c G g) 22 0 (pm_ix (vs0) 8 (fun jx => pm_go call ns d 59 n 69 [some (pm_r 20 0), some (pm_i v1), some (pm_i v2), some (pm_i v3)] [] (pm_u (mA Z A G) 22 0 jx (G 22 j1), mB Y o c g, R, pm_tot, x)))) rfl ?_
    refine (g_ok (f := 22) (by decide) rfl).trans ?_
    refine (ix_ok (j := j2) e2 l2 (by decide)).trans ?_
    exact (congrArg (fun z => pm_go call ns d 59 n 69 [some (pm_r 20 0), some (pm_i v1), some (pm_i v2), some (pm_i v3)] [] (z, mB Y o c g, R, pm_tot, x)) (uG (by decide)))
  exact pW_eq 2 (fun call n => rfl) k
set_option maxRecDepth 20000 in
theorem b59_48 (hR : RS R) {v1 : Int32} {v2 : Int32} {v3 : Int32} {vs0 : Int32} {j1 : Nat} (e1 : v3 = nI j1) (l1 : j1 < 8)  (k1 : G 22 j1 = v1 → pW ns d 59 58 [some (pm_r 20 0), some (pm_i v1), some (pm_i v2), some (pm_i v3)] [pm_i vs0, pm_r 22 0] (mm x R Z Y o A c G g) Q) (k2 : ¬ (G 22 j1 = v1) → pW ns d 59 62 [some (pm_r 20 0), some (pm_i v1), some (pm_i v2), some (pm_i v3)] [pm_i vs0, pm_r 22 0] (mm x R Z Y o A c G g) Q) : pW ns d 59 48 [some (pm_r 20 0), some (pm_i v1), some (pm_i v2), some (pm_i v3)] [pm_i vs0, pm_r 22 0] (mm x R Z Y o A c G g) Q := by
  refine pW_eq 2 (pc' := 52) (L' := [some (pm_r 20 0), some (pm_i v1), some (pm_i v2), some (pm_i v3)]) (S' := [pm_r 22 0, pm_i vs0, pm_r 22 0]) (M' := (mm x R Z Y o A c G g)) (fun call n => ?_) ?_
  · refine Eq.trans (b := pm_g (mm x R Z Y o A c G g) 20 0 (pm_go call ns d 59 n 52 [some (pm_r 20 0), some (pm_i v1), some (pm_i v2), some (pm_i v3)] [pm_a (R 20 0 2), pm_i vs0, pm_r 22 0] (mm x R Z Y o A c G g))) rfl ?_
    refine (g_ok (f := 20) (by decide) rfl).trans ?_
    exact (congrArg (fun z => pm_go call ns d 59 n 52 [some (pm_r 20 0), some (pm_i v1), some (pm_i v2), some (pm_i v3)] [pm_a z, pm_i vs0, pm_r 22 0] (mm x R Z Y o A c G g)) (rs_20_2 hR))
  refine pW_eq 2 (pc' := 54) (L' := [some (pm_r 20 0), some (pm_i v1), some (pm_i v2), some (pm_i v3)]) (S' := [pm_i (G 22 j1), pm_i vs0, pm_r 22 0]) (M' := (mm x R Z Y o A c G g)) (fun call n => ?_) ?_
  · refine Eq.trans (b := pm_g (mm x R Z Y o A c G g) 22 0 (pm_ix (v3) 8 (fun jx => pm_go call ns d 59 n 54 [some (pm_r 20 0), some (pm_i v1), some (pm_i v2), some (pm_i v3)] [pm_i (G 22 jx), pm_i vs0, pm_r 22 0] (mm x R Z Y o A c G g)))) rfl ?_
    refine (g_ok (f := 22) (by decide) rfl).trans ?_
    refine (ix_ok (j := j1) e1 l1 (by decide)).trans ?_
    rfl
  exact pW_if 2 (c := G 22 j1 = v1) (fun call n => rfl) k1 k2
set_option maxRecDepth 20000 in
theorem b59_135 (hR : RS R) {u0 : Option pm_V} {u1 : Option pm_V} {u2 : Option pm_V} {u3 : Option pm_V}   (k : Q (.inl none, (mm x R Z Y o A c G g))) : pW ns d 59 135 [u0, u1, u2, u3] [] (mm x R Z Y o A c G g) Q := by
  refine pW_ret 1 (fun call n => ?_) k
  rfl
set_option maxRecDepth 20000 in
theorem b59_58 (hR : RS R) {v1 : Int32} {v2 : Int32} {v3 : Int32} {vs0 : Int32} {j1 : Nat} (e1 : vs0 = nI j1) (l1 : j1 < 8)  (k : pW ns d 59 28 [some (pm_r 20 0), some (pm_i v1), some (pm_i v2), some (pm_i (v3 + (nI 1)))] [] (mm x R Z Y o A c (pm_v G 22 j1 (nI 0)) g) Q) : pW ns d 59 58 [some (pm_r 20 0), some (pm_i v1), some (pm_i v2), some (pm_i v3)] [pm_i vs0, pm_r 22 0] (mm x R Z Y o A c G g) Q := by
  refine pW_eq 3 (pc' := 69) (L' := [some (pm_r 20 0), some (pm_i v1), some (pm_i v2), some (pm_i v3)]) (S' := []) (M' := (mm x R Z Y o A c (pm_v G 22 j1 (nI 0)) g)) (fun call n => ?_) ?_
  · refine Eq.trans (b := pm_g (mm x R Z Y o A c G g) 22 0 (pm_ix (vs0) 8 (fun jx => pm_go call ns d 59 n 69 [some (pm_r 20 0), some (pm_i v1), some (pm_i v2), some (pm_i v3)] [] (pm_u (mA Z A G) 22 0 jx (nI 0), mB Y o c g, R, pm_tot, x)))) rfl ?_
    refine (g_ok (f := 22) (by decide) rfl).trans ?_
    refine (ix_ok (j := j1) e1 l1 (by decide)).trans ?_
    exact (congrArg (fun z => pm_go call ns d 59 n 69 [some (pm_r 20 0), some (pm_i v1), some (pm_i v2), some (pm_i v3)] [] (z, mB Y o c g, R, pm_tot, x)) (uG (by decide)))
  exact pW_eq 2 (fun call n => rfl) k
set_option maxRecDepth 20000 in
theorem t59_2 (hR : RS R) {v1 : Int32} {v2 : Int32} {v3 : Int32}  (k1 : (nI 6 ≤ v3) → pW ns d 59 28 [some (pm_r 20 0), some (pm_i v1), some (pm_i v2), some (pm_i (nI 1))] [] (mm x R Z Y o A c G g) Q) (k2 : (¬ (nI 6 ≤ v3)) → pW ns d 59 8 [some (pm_r 20 0), some (pm_i v1), some (pm_i v2), some (pm_i v3)] [] (mm x R Z Y o A c G g) Q) : pW ns d 59 2 [some (pm_r 20 0), some (pm_i v1), some (pm_i v2), some (pm_i v3)] [] (mm x R Z Y o A c G g) Q := by
  refine b59_2 hR  (fun h1 => ?_) (fun h1 => ?_)
  · skip
    exact b59_26 hR   (k1 h1)
  · skip
    exact (k2 h1)
set_option maxRecDepth 20000 in
theorem t59_28 (hR : RS R) {v1 : Int32} {v2 : Int32} {v3 : Int32}  (k1 : (nI 8 ≤ v3) → pW ns d 59 75 [some (pm_r 20 0), some (pm_i v1), some (pm_i v2), some (pm_i v3)] [] (mm x R Z Y o A c G g) Q) (k2 : (¬ (nI 8 ≤ v3)) → pW ns d 59 34 [some (pm_r 20 0), some (pm_i v1), some (pm_i v2), some (pm_i v3)] [] (mm x R Z Y o A c G g) Q) : pW ns d 59 28 [some (pm_r 20 0), some (pm_i v1), some (pm_i v2), some (pm_i v3)] [] (mm x R Z Y o A c G g) Q := by
  refine b59_28 hR  (fun h1 => ?_) (fun h1 => ?_)
  · skip
    exact (k1 h1)
  · skip
    exact (k2 h1)
set_option maxRecDepth 20000 in
theorem t59_75 (hR : RS R) {v1 : Int32} {v2 : Int32} {u3 : Option pm_V} {j1 : Nat} {j2 : Nat} (e1 : v1 = nI j1) (l1 : j1 < 8) (e2 : ((nI 8) * (G 22 j1)) + (nI 7) = nI j2) (l2 : j2 < 64) (k1 : (G 33 j2 = nI 1) → pW ns d 59 103 [some (pm_r 20 0), some (pm_i v1), some (pm_i v2), some (pm_i (G 22 j1))] [pm_i v1, pm_r 21 0] (mm x R Z Y o A c G g) Q) (k2 : (¬ (G 33 j2 = nI 1)) → pW ns d 59 107 [some (pm_r 20 0), some (pm_i v1), some (pm_i v2), some (pm_i (G 22 j1))] [pm_i v1, pm_r 21 0] (mm x R Z Y o A c G g) Q) : pW ns d 59 75 [some (pm_r 20 0), some (pm_i v1), some (pm_i v2), u3] [] (mm x R Z Y o A c G g) Q := by
  refine b59_75 hR e1 l1 e2 l2 (fun h1 => ?_) (fun h1 => ?_)
  · skip
    exact (k1 h1)
  · skip
    exact (k2 h1)
set_option maxRecDepth 20000 in
theorem t59_34 (hR : RS R) {v1 : Int32} {v2 : Int32} {v3 : Int32} {j1 : Nat} (e1 : v3 = nI j1) (l1 : j1 < 8) (k1 : (G 21 j1 = 0) → pW ns d 59 28 [some (pm_r 20 0), some (pm_i v1), some (pm_i v2), some (pm_i (v3 + (nI 1)))] [] (mm x R Z Y o A c (pm_v G 22 j1 (G 22 j1)) g) Q) (k2 : (¬ (G 21 j1 = 0)) → (G 22 j1 = v1) → pW ns d 59 28 [some (pm_r 20 0), some (pm_i v1), some (pm_i v2), some (pm_i (v3 + (nI 1)))] [] (mm x R Z Y o A c (pm_v G 22 j1 (nI 0)) g) Q) (k3 : (¬ (G 21 j1 = 0)) → (¬ (G 22 j1 = v1)) → pW ns d 59 28 [some (pm_r 20 0), some (pm_i v1), some (pm_i v2), some (pm_i (v3 + (nI 1)))] [] (mm x R Z Y o A c (pm_v G 22 j1 (G 22 j1)) g) Q) : pW ns d 59 34 [some (pm_r 20 0), some (pm_i v1), some (pm_i v2), some (pm_i v3)] [] (mm x R Z Y o A c G g) Q := by
  refine b59_34 hR e1 l1 (fun h1 => ?_) (fun h1 => ?_)
  · skip
    exact b59_62 hR  e1 l1 e1 l1 (k1 h1)
  · skip
    refine b59_48 hR  e1 l1 (fun h2 => ?_) (fun h2 => ?_)
    · skip
      exact b59_58 hR  e1 l1 (k2 h1 h2)
    · skip
      exact b59_62 hR  e1 l1 e1 l1 (k3 h1 h2)
set_option maxRecDepth 20000 in
theorem t59_48 (hR : RS R) {v1 : Int32} {v2 : Int32} {v3 : Int32} {vs0 : Int32} {j1 : Nat} (e1 : v3 = nI j1) (l1 : j1 < 8) (k1 : (G 22 j1 = v1) → pW ns d 59 58 [some (pm_r 20 0), some (pm_i v1), some (pm_i v2), some (pm_i v3)] [pm_i vs0, pm_r 22 0] (mm x R Z Y o A c G g) Q) (k2 : (¬ (G 22 j1 = v1)) → pW ns d 59 62 [some (pm_r 20 0), some (pm_i v1), some (pm_i v2), some (pm_i v3)] [pm_i vs0, pm_r 22 0] (mm x R Z Y o A c G g) Q) : pW ns d 59 48 [some (pm_r 20 0), some (pm_i v1), some (pm_i v2), some (pm_i v3)] [pm_i vs0, pm_r 22 0] (mm x R Z Y o A c G g) Q := by
  refine b59_48 hR e1 l1 (fun h1 => ?_) (fun h1 => ?_)
  · skip
    exact (k1 h1)
  · skip
    exact (k2 h1)
/-! 60 JobLayerModel.byDefault -/
set_option maxRecDepth 20000 in
theorem b60_0 (hR : RS R) {v1 : Int32} {v2 : Int32}   (k1 : v1 = 0 → pW ns d 60 4 [some (pm_r 20 0), some (pm_i v1), some (pm_i v2)] [] (mm x R Z Y o A c G g) Q) (k2 : ¬ (v1 = 0) → pW ns d 60 5 [some (pm_r 20 0), some (pm_i v1), some (pm_i v2)] [] (mm x R Z Y o A c G g) Q) : pW ns d 60 0 [some (pm_r 20 0), some (pm_i v1), some (pm_i v2)] [] (mm x R Z Y o A c G g) Q := by
  exact pW_if 2 (c := v1 = 0) (fun call n => rfl) k1 k2
set_option maxRecDepth 20000 in
theorem b60_4 (hR : RS R) {u0 : Option pm_V} {u1 : Option pm_V} {u2 : Option pm_V}   (k : Q (.inl none, (mm x R Z Y o A c G g))) : pW ns d 60 4 [u0, u1, u2] [] (mm x R Z Y o A c G g) Q := by
  refine pW_ret 1 (fun call n => ?_) k
  rfl
set_option maxRecDepth 20000 in
theorem b60_5 (hR : RS R) {v1 : Int32} {v2 : Int32}   (k1 : nI 4 ≤ v2 → pW ns d 60 22 [some (pm_r 20 0), some (pm_i v1), some (pm_i v2)] [] (mm x R Z Y o A c G g) Q) (k2 : ¬ (nI 4 ≤ v2) → pW ns d 60 10 [some (pm_r 20 0), some (pm_i v1), some (pm_i v2)] [] (mm x R Z Y o A c G g) Q) : pW ns d 60 5 [some (pm_r 20 0), some (pm_i v1), some (pm_i v2)] [] (mm x R Z Y o A c G g) Q := by
  exact pW_if 3 (c := nI 4 ≤ v2) (fun call n => rfl) k1 k2
set_option maxRecDepth 20000 in
theorem b60_22 (hR : RS R) {v1 : Int32} {v2 : Int32}   (k1 : nI 6 ≤ v2 → pW ns d 60 46 [some (pm_r 20 0), some (pm_i v1), some (pm_i v2)] [] (mm x R Z Y o A c G g) Q) (k2 : ¬ (nI 6 ≤ v2) → pW ns d 60 28 [some (pm_r 20 0), some (pm_i v1), some (pm_i v2)] [] (mm x R Z Y o A c G g) Q) : pW ns d 60 22 [some (pm_r 20 0), some (pm_i v1), some (pm_i v2)] [] (mm x R Z Y o A c G g) Q := by
  exact pW_if 3 (c := nI 6 ≤ v2) (fun call n => rfl) k1 k2
set_option maxRecDepth 20000 in
theorem b60_10 (hR : RS R) {v1 : Int32} {v2 : Int32}  {x2 : Nat} {o2 : Int64} {A2 : Nat → Nat → Nat → Int32} {c2 : Nat → Int64} {G2 : Nat → Nat → Int32} {g2 : Nat → Int64}  (hE : pE ns d 59 [pm_r 20 0, pm_i v1, pm_i ((nI 64) + v2)] (mm x R Z Y o A c G g) (.inl (none), (mm x2 R Z Y o2 A2 c2 G2 g2))) (k : pW ns d 60 19 [some (pm_r 20 0), some (pm_i v1), some (pm_i v2)] [] (mm x2 R Z Y o2 A2 c2 G2 g2) Q) : pW ns d 60 10 [some (pm_r 20 0), some (pm_i v1), some (pm_i v2)] [] (mm x R Z Y o A c G g) Q := by
  refine pW_call (pc' := 16) (r := []) (L' := [some (pm_r 20 0), some (pm_i v1), some (pm_i v2)]) 6 (fun call n => ?_) hE k
  exact Eq.trans (b := pm_g (mm x R Z Y o A c G g) 20 0 (pm_cl call 60 (pm_go call ns d 60 n) 16 59 [pm_r 20 0, pm_i v1, pm_i ((nI 64) + v2)] [] [some (pm_r 20 0), some (pm_i v1), some (pm_i v2)] (mm x R Z Y o A c G g))) rfl (g_ok (f := 20) (by decide) rfl)
set_option maxRecDepth 20000 in
theorem b60_46 (hR : RS R) {u0 : Option pm_V} {u1 : Option pm_V} {u2 : Option pm_V}   (k : Q (.inl none, (mm x R Z Y o A c G g))) : pW ns d 60 46 [u0, u1, u2] [] (mm x R Z Y o A c G g) Q := by
  refine pW_ret 1 (fun call n => ?_) k
  rfl
set_option maxRecDepth 20000 in
theorem b60_28 (hR : RS R) {v1 : Int32} {u2 : Option pm_V} {j1 : Nat} (e1 : v1 = nI j1) (l1 : j1 < 8) {x2 : Nat} {o2 : Int64} {A2 : Nat → Nat → Nat → Int32} {c2 : Nat → Int64} {G2 : Nat → Nat → Int32} {g2 : Nat → Int64} {y : Int32} (hE : pE ns d 54 [pm_r 20 0, pm_i (G 23 j1)] (mm x R Z Y o A c G g) (.inl (some (pm_i y)), (mm x2 R Z Y o2 A2 c2 G2 g2))) (k : pW ns d 60 38 [some (pm_r 20 0), some (pm_i v1), u2] [pm_i y] (mm x2 R Z Y o2 A2 c2 G2 g2) Q) : pW ns d 60 28 [some (pm_r 20 0), some (pm_i v1), u2] [] (mm x R Z Y o A c G g) Q := by
  refine pW_eq 3 (pc' := 33) (L' := [some (pm_r 20 0), some (pm_i v1), u2]) (S' := [pm_r 23 0, pm_r 20 0]) (M' := (mm x R Z Y o A c G g)) (fun call n => ?_) ?_
  · refine Eq.trans (b := pm_g (mm x R Z Y o A c G g) 20 0 (pm_go call ns d 60 n 33 [some (pm_r 20 0), some (pm_i v1), u2] [pm_a (R 20 0 3), pm_r 20 0] (mm x R Z Y o A c G g))) rfl ?_
    refine (g_ok (f := 20) (by decide) rfl).trans ?_
    exact (congrArg (fun z => pm_go call ns d 60 n 33 [some (pm_r 20 0), some (pm_i v1), u2] [pm_a z, pm_r 20 0] (mm x R Z Y o A c G g)) (rs_20_3 hR))
  refine pW_eq 2 (pc' := 35) (L' := [some (pm_r 20 0), some (pm_i v1), u2]) (S' := [pm_i (G 23 j1), pm_r 20 0]) (M' := (mm x R Z Y o A c G g)) (fun call n => ?_) ?_
  · refine Eq.trans (b := pm_g (mm x R Z Y o A c G g) 23 0 (pm_ix (v1) 8 (fun jx => pm_go call ns d 60 n 35 [some (pm_r 20 0), some (pm_i v1), u2] [pm_i (G 23 jx), pm_r 20 0] (mm x R Z Y o A c G g)))) rfl ?_
    refine (g_ok (f := 23) (by decide) rfl).trans ?_
    refine (ix_ok (j := j1) e1 l1 (by decide)).trans ?_
    rfl
  refine pW_call (pc' := 35) (r := []) (L' := [some (pm_r 20 0), some (pm_i v1), u2]) 1 (fun call n => ?_) hE k
  exact Eq.trans (b := pm_g (mm x R Z Y o A c G g) 20 0 (pm_cl call 60 (pm_go call ns d 60 n) 35 54 [pm_r 20 0, pm_i (G 23 j1)] [] [some (pm_r 20 0), some (pm_i v1), u2] (mm x R Z Y o A c G g))) rfl (g_ok (f := 20) (by decide) rfl)
set_option maxRecDepth 20000 in
theorem b60_19 (hR : RS R) {u0 : Option pm_V} {u1 : Option pm_V} {u2 : Option pm_V}   (k : Q (.inl none, (mm x R Z Y o A c G g))) : pW ns d 60 19 [u0, u1, u2] [] (mm x R Z Y o A c G g) Q := by
  refine pW_ret 2 (fun call n => ?_) k
  rfl
set_option maxRecDepth 20000 in
theorem b60_38 (hR : RS R) {v1 : Int32} {u2 : Option pm_V} {vs0 : Int32}   (k1 : vs0 = 0 → pW ns d 60 41 [some (pm_r 20 0), some (pm_i v1), u2] [] (mm x R Z Y o A c G g) Q) (k2 : ¬ (vs0 = 0) → pW ns d 60 46 [some (pm_r 20 0), some (pm_i v1), u2] [] (mm x R Z Y o A c G g) Q) : pW ns d 60 38 [some (pm_r 20 0), some (pm_i v1), u2] [pm_i vs0] (mm x R Z Y o A c G g) Q := by
  exact pW_if 1 (c := vs0 = 0) (fun call n => rfl) k1 k2
set_option maxRecDepth 20000 in
theorem b60_41 (hR : RS R) {v1 : Int32} {u2 : Option pm_V}  {x2 : Nat} {o2 : Int64} {A2 : Nat → Nat → Nat → Int32} {c2 : Nat → Int64} {G2 : Nat → Nat → Int32} {g2 : Nat → Int64}  (hE : pE ns d 58 [pm_r 20 0, pm_i v1] (mm x R Z Y o A c G g) (.inl (none), (mm x2 R Z Y o2 A2 c2 G2 g2))) (k : pW ns d 60 46 [some (pm_r 20 0), some (pm_i v1), u2] [] (mm x2 R Z Y o2 A2 c2 G2 g2) Q) : pW ns d 60 41 [some (pm_r 20 0), some (pm_i v1), u2] [] (mm x R Z Y o A c G g) Q := by
  refine pW_call (pc' := 43) (r := []) (L' := [some (pm_r 20 0), some (pm_i v1), u2]) 3 (fun call n => ?_) hE k
  exact Eq.trans (b := pm_g (mm x R Z Y o A c G g) 20 0 (pm_cl call 60 (pm_go call ns d 60 n) 43 58 [pm_r 20 0, pm_i v1] [] [some (pm_r 20 0), some (pm_i v1), u2] (mm x R Z Y o A c G g))) rfl (g_ok (f := 20) (by decide) rfl)
set_option maxRecDepth 20000 in
theorem t60_0 (hR : RS R) {v1 : Int32} {v2 : Int32}  (k1 : (v1 = 0) → Q (.inl none, (mm x R Z Y o A c G g))) (k2 : (¬ (v1 = 0)) → (nI 4 ≤ v2) → (nI 6 ≤ v2) → Q (.inl none, (mm x R Z Y o A c G g))) (k3 : (¬ (v1 = 0)) → (nI 4 ≤ v2) → (¬ (nI 6 ≤ v2)) → pW ns d 60 28 [some (pm_r 20 0), some (pm_i v1), some (pm_i v2)] [] (mm x R Z Y o A c G g) Q) (k4 : (¬ (v1 = 0)) → (¬ (nI 4 ≤ v2)) → pW ns d 60 10 [some (pm_r 20 0), some (pm_i v1), some (pm_i v2)] [] (mm x R Z Y o A c G g) Q) : pW ns d 60 0 [some (pm_r 20 0), some (pm_i v1), some (pm_i v2)] [] (mm x R Z Y o A c G g) Q := by
  refine b60_0 hR  (fun h1 => ?_) (fun h1 => ?_)
  · skip
    exact b60_4 hR   (k1 h1)
  · skip
    refine b60_5 hR   (fun h2 => ?_) (fun h2 => ?_)
    · skip
      refine b60_22 hR   (fun h3 => ?_) (fun h3 => ?_)
      · skip
        exact b60_46 hR   (k2 h1 h2 h3)
      · skip
        exact (k3 h1 h2 h3)
    · skip
      exact (k4 h1 h2)
set_option maxRecDepth 20000 in
theorem t60_5 (hR : RS R) {v1 : Int32} {v2 : Int32}  (k1 : (nI 4 ≤ v2) → (nI 6 ≤ v2) → Q (.inl none, (mm x R Z Y o A c G g))) (k2 : (nI 4 ≤ v2) → (¬ (nI 6 ≤ v2)) → pW ns d 60 28 [some (pm_r 20 0), some (pm_i v1), some (pm_i v2)] [] (mm x R Z Y o A c G g) Q) (k3 : (¬ (nI 4 ≤ v2)) → pW ns d 60 10 [some (pm_r 20 0), some (pm_i v1), some (pm_i v2)] [] (mm x R Z Y o A c G g) Q) : pW ns d 60 5 [some (pm_r 20 0), some (pm_i v1), some (pm_i v2)] [] (mm x R Z Y o A c G g) Q := by
  refine b60_5 hR  (fun h1 => ?_) (fun h1 => ?_)
  · skip
    refine b60_22 hR   (fun h2 => ?_) (fun h2 => ?_)
    · skip
      exact b60_46 hR   (k1 h1 h2)
    · skip
      exact (k2 h1 h2)
  · skip
    exact (k3 h1)
set_option maxRecDepth 20000 in
theorem t60_22 (hR : RS R) {v1 : Int32} {v2 : Int32}  (k1 : (nI 6 ≤ v2) → Q (.inl none, (mm x R Z Y o A c G g))) (k2 : (¬ (nI 6 ≤ v2)) → pW ns d 60 28 [some (pm_r 20 0), some (pm_i v1), some (pm_i v2)] [] (mm x R Z Y o A c G g) Q) : pW ns d 60 22 [some (pm_r 20 0), some (pm_i v1), some (pm_i v2)] [] (mm x R Z Y o A c G g) Q := by
  refine b60_22 hR  (fun h1 => ?_) (fun h1 => ?_)
  · skip
    exact b60_46 hR   (k1 h1)
  · skip
    exact (k2 h1)
set_option maxRecDepth 20000 in
theorem t60_38 (hR : RS R) {v1 : Int32} {u2 : Option pm_V} {vs0 : Int32}  (k1 : (vs0 = 0) → pW ns d 60 41 [some (pm_r 20 0), some (pm_i v1), u2] [] (mm x R Z Y o A c G g) Q) (k2 : (¬ (vs0 = 0)) → Q (.inl none, (mm x R Z Y o A c G g))) : pW ns d 60 38 [some (pm_r 20 0), some (pm_i v1), u2] [pm_i vs0] (mm x R Z Y o A c G g) Q := by
  refine b60_38 hR  (fun h1 => ?_) (fun h1 => ?_)
  · skip
    exact (k1 h1)
  · skip
    exact b60_46 hR   (k2 h1)
/-! 61 JobLayerModel.deliver -/
set_option maxRecDepth 20000 in
theorem b61_0 (hR : RS R) {v1 : Int32} {u2 : Option pm_V} {u3 : Option pm_V}   (k : pW ns d 61 2 [some (pm_r 20 0), some (pm_i v1), some (pm_i (nI 1)), u3] [] (mm x R Z Y o A c G g) Q) : pW ns d 61 0 [some (pm_r 20 0), some (pm_i v1), u2, u3] [] (mm x R Z Y o A c G g) Q := by
  exact pW_eq 2 (fun call n => rfl) k
set_option maxRecDepth 20000 in
theorem b61_2 (hR : RS R) {v1 : Int32} {v2 : Int32} {u3 : Option pm_V}   (k1 : nI 8 ≤ v2 → pW ns d 61 128 [some (pm_r 20 0), some (pm_i v1), some (pm_i v2), u3] [] (mm x R Z Y o A c G g) Q) (k2 : ¬ (nI 8 ≤ v2) → pW ns d 61 8 [some (pm_r 20 0), some (pm_i v1), some (pm_i v2), u3] [] (mm x R Z Y o A c G g) Q) : pW ns d 61 2 [some (pm_r 20 0), some (pm_i v1), some (pm_i v2), u3] [] (mm x R Z Y o A c G g) Q := by
  exact pW_if 3 (c := nI 8 ≤ v2) (fun call n => rfl) k1 k2
set_option maxRecDepth 20000 in
theorem b61_128 (hR : RS R) {u0 : Option pm_V} {u1 : Option pm_V} {u2 : Option pm_V} {u3 : Option pm_V}   (k : Q (.inl none, (mm x R Z Y o A c G g))) : pW ns d 61 128 [u0, u1, u2, u3] [] (mm x R Z Y o A c G g) Q := by
  refine pW_ret 1 (fun call n => ?_) k
  rfl
set_option maxRecDepth 20000 in
theorem b61_8 (hR : RS R) {v1 : Int32} {v2 : Int32} {u3 : Option pm_V} {j1 : Nat} (e1 : v1 = nI j1) (l1 : j1 < 8)  (k1 : G 21 j1 = nI 1 → pW ns d 61 28 [some (pm_r 20 0), some (pm_i v1), some (pm_i v2), u3] [] (mm x R Z Y o A c G g) Q) (k2 : ¬ (G 21 j1 = nI 1) → pW ns d 61 18 [some (pm_r 20 0), some (pm_i v1), some (pm_i v2), u3] [] (mm x R Z Y o A c G g) Q) : pW ns d 61 8 [some (pm_r 20 0), some (pm_i v1), some (pm_i v2), u3] [] (mm x R Z Y o A c G g) Q := by
  refine pW_eq 2 (pc' := 12) (L' := [some (pm_r 20 0), some (pm_i v1), some (pm_i v2), u3]) (S' := [pm_r 21 0]) (M' := (mm x R Z Y o A c G g)) (fun call n => ?_) ?_
  · refine Eq.trans (b := pm_g (mm x R Z Y o A c G g) 20 0 (pm_go call ns d 61 n 12 [some (pm_r 20 0), some (pm_i v1), some (pm_i v2), u3] [pm_a (R 20 0 1)] (mm x R Z Y o A c G g))) rfl ?_
    refine (g_ok (f := 20) (by decide) rfl).trans ?_
    exact (congrArg (fun z => pm_go call ns d 61 n 12 [some (pm_r 20 0), some (pm_i v1), some (pm_i v2), u3] [pm_a z] (mm x R Z Y o A c G g)) (rs_20_1 hR))
  refine pW_eq 2 (pc' := 14) (L' := [some (pm_r 20 0), some (pm_i v1), some (pm_i v2), u3]) (S' := [pm_i (G 21 j1)]) (M' := (mm x R Z Y o A c G g)) (fun call n => ?_) ?_
  · refine Eq.trans (b := pm_g (mm x R Z Y o A c G g) 21 0 (pm_ix (v1) 8 (fun jx => pm_go call ns d 61 n 14 [some (pm_r 20 0), some (pm_i v1), some (pm_i v2), u3] [pm_i (G 21 jx)] (mm x R Z Y o A c G g)))) rfl ?_
    refine (g_ok (f := 21) (by decide) rfl).trans ?_
    refine (ix_ok (j := j1) e1 l1 (by decide)).trans ?_
    rfl
  exact pW_if 2 (c := G 21 j1 = nI 1) (fun call n => rfl) k1 k2
set_option maxRecDepth 20000 in
theorem b61_28 (hR : RS R) {v1 : Int32} {v2 : Int32} {u3 : Option pm_V} {j1 : Nat} (e1 : v1 = nI j1) (l1 : j1 < 8)  (k1 : ((G 25 j1) &&& ((G 24 j1) ^^^ (-nI 1))) &&& ((nI 1) <<< (v2 &&& 31)) = 0 → pW ns d 61 54 [some (pm_r 20 0), some (pm_i v1), some (pm_i v2), u3] [] (mm x R Z Y o A c G g) Q) (k2 : ¬ (((G 25 j1) &&& ((G 24 j1) ^^^ (-nI 1))) &&& ((nI 1) <<< (v2 &&& 31)) = 0) → pW ns d 61 50 [some (pm_r 20 0), some (pm_i v1), some (pm_i v2), u3] [] (mm x R Z Y o A c G g) Q) : pW ns d 61 28 [some (pm_r 20 0), some (pm_i v1), some (pm_i v2), u3] [] (mm x R Z Y o A c G g) Q := by
  refine pW_eq 2 (pc' := 32) (L' := [some (pm_r 20 0), some (pm_i v1), some (pm_i v2), u3]) (S' := [pm_r 25 0]) (M' := (mm x R Z Y o A c G g)) (fun call n => ?_) ?_
  · refine Eq.trans (b := pm_g (mm x R Z Y o A c G g) 20 0 (pm_go call ns d 61 n 32 [some (pm_r 20 0), some (pm_i v1), some (pm_i v2), u3] [pm_a (R 20 0 5)] (mm x R Z Y o A c G g))) rfl ?_
    refine (g_ok (f := 20) (by decide) rfl).trans ?_
    exact (congrArg (fun z => pm_go call ns d 61 n 32 [some (pm_r 20 0), some (pm_i v1), some (pm_i v2), u3] [pm_a z] (mm x R Z Y o A c G g)) (rs_20_5 hR))
  refine pW_eq 2 (pc' := 34) (L' := [some (pm_r 20 0), some (pm_i v1), some (pm_i v2), u3]) (S' := [pm_i (G 25 j1)]) (M' := (mm x R Z Y o A c G g)) (fun call n => ?_) ?_
  · refine Eq.trans (b := pm_g (mm x R Z Y o A c G g) 25 0 (pm_ix (v1) 8 (fun jx => pm_go call ns d 61 n 34 [some (pm_r 20 0), some (pm_i v1), some (pm_i v2), u3] [pm_i (G 25 jx)] (mm x R Z Y o A c G g)))) rfl ?_
    refine (g_ok (f := 25) (by decide) rfl).trans ?_
    refine (ix_ok (j := j1) e1 l1 (by decide)).trans ?_
    rfl
  refine pW_eq 2 (pc' := 38) (L' := [some (pm_r 20 0), some (pm_i v1), some (pm_i v2), u3]) (S' := [pm_r 24 0, pm_i (G 25 j1)]) (M' := (mm x R Z Y o A c G g)) (fun call n => ?_) ?_
  · refine Eq.trans (b := pm_g (mm x R Z Y o A c G g) 20 0 (pm_go call ns d 61 n 38 [some (pm_r 20 0), some (pm_i v1), some (pm_i v2), u3] [pm_a (R 20 0 4), pm_i (G 25 j1)] (mm x R Z Y o A c G g))) rfl ?_
    refine (g_ok (f := 20) (by decide) rfl).trans ?_
    exact (congrArg (fun z => pm_go call ns d 61 n 38 [some (pm_r 20 0), some (pm_i v1), some (pm_i v2), u3] [pm_a z, pm_i (G 25 j1)] (mm x R Z Y o A c G g)) (rs_20_4 hR))
  refine pW_eq 2 (pc' := 40) (L' := [some (pm_r 20 0), some (pm_i v1), some (pm_i v2), u3]) (S' := [pm_i (G 24 j1), pm_i (G 25 j1)]) (M' := (mm x R Z Y o A c G g)) (fun call n => ?_) ?_
  · refine Eq.trans (b := pm_g (mm x R Z Y o A c G g) 24 0 (pm_ix (v1) 8 (fun jx => pm_go call ns d 61 n 40 [some (pm_r 20 0), some (pm_i v1), some (pm_i v2), u3] [pm_i (G 24 jx), pm_i (G 25 j1)] (mm x R Z Y o A c G g)))) rfl ?_
    refine (g_ok (f := 24) (by decide) rfl).trans ?_
    refine (ix_ok (j := j1) e1 l1 (by decide)).trans ?_
    rfl
  exact pW_if 8 (c := ((G 25 j1) &&& ((G 24 j1) ^^^ (-nI 1))) &&& ((nI 1) <<< (v2 &&& 31)) = 0) (fun call n => rfl) k1 k2
set_option maxRecDepth 20000 in
theorem b61_18 (hR : RS R) {v1 : Int32} {v2 : Int32} {u3 : Option pm_V} {j1 : Nat} (e1 : v1 = nI j1) (l1 : j1 < 8)  (k1 : G 21 j1 = nI 2 → pW ns d 61 28 [some (pm_r 20 0), some (pm_i v1), some (pm_i v2), u3] [] (mm x R Z Y o A c G g) Q) (k2 : ¬ (G 21 j1 = nI 2) → pW ns d 61 54 [some (pm_r 20 0), some (pm_i v1), some (pm_i v2), u3] [] (mm x R Z Y o A c G g) Q) : pW ns d 61 18 [some (pm_r 20 0), some (pm_i v1), some (pm_i v2), u3] [] (mm x R Z Y o A c G g) Q := by
  refine pW_eq 2 (pc' := 22) (L' := [some (pm_r 20 0), some (pm_i v1), some (pm_i v2), u3]) (S' := [pm_r 21 0]) (M' := (mm x R Z Y o A c G g)) (fun call n => ?_) ?_
  · refine Eq.trans (b := pm_g (mm x R Z Y o A c G g) 20 0 (pm_go call ns d 61 n 22 [some (pm_r 20 0), some (pm_i v1), some (pm_i v2), u3] [pm_a (R 20 0 1)] (mm x R Z Y o A c G g))) rfl ?_
    refine (g_ok (f := 20) (by decide) rfl).trans ?_
    exact (congrArg (fun z => pm_go call ns d 61 n 22 [some (pm_r 20 0), some (pm_i v1), some (pm_i v2), u3] [pm_a z] (mm x R Z Y o A c G g)) (rs_20_1 hR))
  refine pW_eq 2 (pc' := 24) (L' := [some (pm_r 20 0), some (pm_i v1), some (pm_i v2), u3]) (S' := [pm_i (G 21 j1)]) (M' := (mm x R Z Y o A c G g)) (fun call n => ?_) ?_
  · refine Eq.trans (b := pm_g (mm x R Z Y o A c G g) 21 0 (pm_ix (v1) 8 (fun jx => pm_go call ns d 61 n 24 [some (pm_r 20 0), some (pm_i v1), some (pm_i v2), u3] [pm_i (G 21 jx)] (mm x R Z Y o A c G g)))) rfl ?_
    refine (g_ok (f := 21) (by decide) rfl).trans ?_
    refine (ix_ok (j := j1) e1 l1 (by decide)).trans ?_
    rfl
  exact pW_if 2 (c := G 21 j1 = nI 2) (fun call n => rfl) k1 k2
set_option maxRecDepth 20000 in
theorem b61_54 (hR : RS R) {v1 : Int32} {v2 : Int32} {u3 : Option pm_V}   (k1 : nI 0 = 0 → pW ns d 61 122 [some (pm_r 20 0), some (pm_i v1), some (pm_i v2), some (pm_i (nI 0))] [] (mm x R Z Y o A c G g) Q) (k2 : ¬ (nI 0 = 0) → pW ns d 61 60 [some (pm_r 20 0), some (pm_i v1), some (pm_i v2), some (pm_i (nI 0))] [] (mm x R Z Y o A c G g) Q) : pW ns d 61 54 [some (pm_r 20 0), some (pm_i v1), some (pm_i v2), u3] [] (mm x R Z Y o A c G g) Q := by
  exact pW_if 4 (c := nI 0 = 0) (fun call n => rfl) k1 k2
set_option maxRecDepth 20000 in
theorem b61_50 (hR : RS R) {v1 : Int32} {v2 : Int32} {u3 : Option pm_V}   (k1 : nI 1 = 0 → pW ns d 61 122 [some (pm_r 20 0), some (pm_i v1), some (pm_i v2), some (pm_i (nI 1))] [] (mm x R Z Y o A c G g) Q) (k2 : ¬ (nI 1 = 0) → pW ns d 61 60 [some (pm_r 20 0), some (pm_i v1), some (pm_i v2), some (pm_i (nI 1))] [] (mm x R Z Y o A c G g) Q) : pW ns d 61 50 [some (pm_r 20 0), some (pm_i v1), some (pm_i v2), u3] [] (mm x R Z Y o A c G g) Q := by
  exact pW_if 5 (c := nI 1 = 0) (fun call n => rfl) k1 k2
set_option maxRecDepth 20000 in
theorem b61_122 (hR : RS R) {v1 : Int32} {v2 : Int32} {u3 : Option pm_V}   (k : pW ns d 61 2 [some (pm_r 20 0), some (pm_i v1), some (pm_i (v2 + (nI 1))), u3] [] (mm x R Z Y o A c G g) Q) : pW ns d 61 122 [some (pm_r 20 0), some (pm_i v1), some (pm_i v2), u3] [] (mm x R Z Y o A c G g) Q := by
  exact pW_eq 2 (fun call n => rfl) k
set_option maxRecDepth 20000 in
theorem b61_60 (hR : RS R) {v1 : Int32} {v2 : Int32} {u3 : Option pm_V} {j1 : Nat} {j2 : Nat} (e1 : v1 = nI j1) (l1 : j1 < 8) (e2 : ((nI 8) * v1) + v2 = nI j2) (l2 : j2 < 64)  (k1 : (pm_v G 25 j1 ((G 25 j1) &&& (((nI 1) <<< (v2 &&& 31)) ^^^ (-nI 1)))) 33 j2 = nI 2 → pW ns d 61 93 [some (pm_r 20 0), some (pm_i v1), some (pm_i v2), u3] [] (mm x R Z Y o A c (pm_v G 25 j1 ((G 25 j1) &&& (((nI 1) <<< (v2 &&& 31)) ^^^ (-nI 1)))) g) Q) (k2 : ¬ ((pm_v G 25 j1 ((G 25 j1) &&& (((nI 1) <<< (v2 &&& 31)) ^^^ (-nI 1)))) 33 j2 = nI 2) → pW ns d 61 102 [some (pm_r 20 0), some (pm_i v1), some (pm_i v2), u3] [] (mm x R Z Y o A c (pm_v G 25 j1 ((G 25 j1) &&& (((nI 1) <<< (v2 &&& 31)) ^^^ (-nI 1)))) g) Q) : pW ns d 61 60 [some (pm_r 20 0), some (pm_i v1), some (pm_i v2), u3] [] (mm x R Z Y o A c G g) Q := by
  refine pW_eq 2 (pc' := 64) (L' := [some (pm_r 20 0), some (pm_i v1), some (pm_i v2), u3]) (S' := [pm_r 25 0]) (M' := (mm x R Z Y o A c G g)) (fun call n => ?_) ?_
  · refine Eq.trans (b := pm_g (mm x R Z Y o A c G g) 20 0 (pm_go call ns d 61 n 64 [some (pm_r 20 0), some (pm_i v1), some (pm_i v2), u3] [pm_a (R 20 0 5)] (mm x R Z Y o A c G g))) rfl ?_
    refine (g_ok (f := 20) (by decide) rfl).trans ?_
    exact (congrArg (fun z => pm_go call ns d 61 n 64 [some (pm_r 20 0), some (pm_i v1), some (pm_i v2), u3] [pm_a z] (mm x R Z Y o A c G g)) (rs_20_5 hR))
  refine pW_eq 3 (pc' := 69) (L' := [some (pm_r 20 0), some (pm_i v1), some (pm_i v2), u3]) (S' := [pm_r 25 0, pm_i v1, pm_r 25 0]) (M' := (mm x R Z Y o A c G g)) (fun call n => ?_) ?_
  · refine Eq.trans (b := pm_g (mm x R Z Y o A c G g) 20 0 (pm_go call ns d 61 n 69 [some (pm_r 20 0), some (pm_i v1), some (pm_i v2), u3] [pm_a (R 20 0 5), pm_i v1, pm_r 25 0] (mm x R Z Y o A c G g))) rfl ?_
    refine (g_ok (f := 20) (by decide) rfl).trans ?_
    exact (congrArg (fun z => pm_go call ns d 61 n 69 [some (pm_r 20 0), some (pm_i v1), some (pm_i v2), u3] [pm_a z, pm_i v1, pm_r 25 0] (mm x R Z Y o A c G g)) (rs_20_5 hR))
  refine pW_eq 2 (pc' := 71) (L' := [some (pm_r 20 0), some (pm_i v1), some (pm_i v2), u3]) (S' := [pm_i (G 25 j1), pm_i v1, pm_r 25 0]) (M' := (mm x R Z Y o A c G g)) (fun call n => ?_) ?_
  · refine Eq.trans (b := pm_g (mm x R Z Y o A c G g) 25 0 (pm_ix (v1) 8 (fun jx => pm_go call ns d 61 n 71 [some (pm_r 20 0), some (pm_i v1), some (pm_i v2), u3] [pm_i (G 25 jx), pm_i v1, pm_r 25 0] (mm x R Z Y o A c G g)))) rfl ?_
    refine (g_ok (f := 25) (by decide) rfl).trans ?_
    refine (ix_ok (j := j1) e1 l1 (by decide)).trans ?_
    rfl
  refine pW_eq 7 (pc' := 78) (L' := [some (pm_r 20 0), some (pm_i v1), some (pm_i v2), u3]) (S' := []) (M' := (mm x R Z Y o A c (pm_v G 25 j1 ((G 25 j1) &&& (((nI 1) <<< (v2 &&& 31)) ^^^ (-nI 1)))) g)) (fun call n => ?_) ?_
  · refine Eq.trans (b := pm_g (mm x R Z Y o A c G g) 25 0 (pm_ix (v1) 8 (fun jx => pm_go call ns d 61 n 78 [some (pm_r 20 0), some (pm_i v1), some (pm_i v2), u3] [] (pm_u (mA Z A G) 25 0 jx ((G 25 j1) &&& (((nI 1) <<< (v2 &&& 31)) ^^^ (-nI 1))), mB Y o c g, R, pm_tot, x)))) rfl ?_
    refine (g_ok (f := 25) (by decide) rfl).trans ?_
    refine (ix_ok (j := j1) e1 l1 (by decide)).trans ?_
    exact (congrArg (fun z => pm_go call ns d 61 n 78 [some (pm_r 20 0), some (pm_i v1), some (pm_i v2), u3] [] (z, mB Y o c g, R, pm_tot, x)) (uG (by decide)))
  refine pW_eq 2 (pc' := 82) (L' := [some (pm_r 20 0), some (pm_i v1), some (pm_i v2), u3]) (S' := [pm_r 33 0]) (M' := (mm x R Z Y o A c (pm_v G 25 j1 ((G 25 j1) &&& (((nI 1) <<< (v2 &&& 31)) ^^^ (-nI 1)))) g)) (fun call n => ?_) ?_
  · refine Eq.trans (b := pm_g (mm x R Z Y o A c (pm_v G 25 j1 ((G 25 j1) &&& (((nI 1) <<< (v2 &&& 31)) ^^^ (-nI 1)))) g) 20 0 (pm_go call ns d 61 n 82 [some (pm_r 20 0), some (pm_i v1), some (pm_i v2), u3] [pm_a (R 20 0 13)] (mm x R Z Y o A c (pm_v G 25 j1 ((G 25 j1) &&& (((nI 1) <<< (v2 &&& 31)) ^^^ (-nI 1)))) g))) rfl ?_
    refine (g_ok (f := 20) (by decide) rfl).trans ?_
    exact (congrArg (fun z => pm_go call ns d 61 n 82 [some (pm_r 20 0), some (pm_i v1), some (pm_i v2), u3] [pm_a z] (mm x R Z Y o A c (pm_v G 25 j1 ((G 25 j1) &&& (((nI 1) <<< (v2 &&& 31)) ^^^ (-nI 1)))) g)) (rs_20_13 hR))
  refine pW_eq 6 (pc' := 89) (L' := [some (pm_r 20 0), some (pm_i v1), some (pm_i v2), u3]) (S' := [pm_i ((pm_v G 25 j1 ((G 25 j1) &&& (((nI 1) <<< (v2 &&& 31)) ^^^ (-nI 1)))) 33 j2)]) (M' := (mm x R Z Y o A c (pm_v G 25 j1 ((G 25 j1) &&& (((nI 1) <<< (v2 &&& 31)) ^^^ (-nI 1)))) g)) (fun call n => ?_) ?_
  · refine Eq.trans (b := pm_g (mm x R Z Y o A c (pm_v G 25 j1 ((G 25 j1) &&& (((nI 1) <<< (v2 &&& 31)) ^^^ (-nI 1)))) g) 33 0 (pm_ix (((nI 8) * v1) + v2) 64 (fun jx => pm_go call ns d 61 n 89 [some (pm_r 20 0), some (pm_i v1), some (pm_i v2), u3] [pm_i ((pm_v G 25 j1 ((G 25 j1) &&& (((nI 1) <<< (v2 &&& 31)) ^^^ (-nI 1)))) 33 jx)] (mm x R Z Y o A c (pm_v G 25 j1 ((G 25 j1) &&& (((nI 1) <<< (v2 &&& 31)) ^^^ (-nI 1)))) g)))) rfl ?_
    refine (g_ok (f := 33) (by decide) rfl).trans ?_
    refine (ix_ok (j := j2) e2 l2 (by decide)).trans ?_
    rfl
  exact pW_if 2 (c := (pm_v G 25 j1 ((G 25 j1) &&& (((nI 1) <<< (v2 &&& 31)) ^^^ (-nI 1)))) 33 j2 = nI 2) (fun call n => rfl) k1 k2
set_option maxRecDepth 20000 in
theorem b61_93 (hR : RS R) {v1 : Int32} {v2 : Int32} {u3 : Option pm_V}  {x2 : Nat} {o2 : Int64} {A2 : Nat → Nat → Nat → Int32} {c2 : Nat → Int64} {G2 : Nat → Nat → Int32} {g2 : Nat → Int64}  (hE : pE ns d 56 [pm_r 20 0, pm_i v1, pm_i v2] (mm x R Z Y o A c G g) (.inl (none), (mm x2 R Z Y o2 A2 c2 G2 g2))) (k : pW ns d 61 99 [some (pm_r 20 0), some (pm_i v1), some (pm_i v2), u3] [] (mm x2 R Z Y o2 A2 c2 G2 g2) Q) : pW ns d 61 93 [some (pm_r 20 0), some (pm_i v1), some (pm_i v2), u3] [] (mm x R Z Y o A c G g) Q := by
  refine pW_call (pc' := 96) (r := []) (L' := [some (pm_r 20 0), some (pm_i v1), some (pm_i v2), u3]) 4 (fun call n => ?_) hE k
  exact Eq.trans (b := pm_g (mm x R Z Y o A c G g) 20 0 (pm_cl call 61 (pm_go call ns d 61 n) 96 56 [pm_r 20 0, pm_i v1, pm_i v2] [] [some (pm_r 20 0), some (pm_i v1), some (pm_i v2), u3] (mm x R Z Y o A c G g))) rfl (g_ok (f := 20) (by decide) rfl)
set_option maxRecDepth 20000 in
theorem b61_102 (hR : RS R) {v1 : Int32} {v2 : Int32} {u3 : Option pm_V} {j1 : Nat} (e1 : ((nI 8) * v1) + v2 = nI j1) (l1 : j1 < 64)  (k1 : G 33 j1 = 0 → pW ns d 61 116 [some (pm_r 20 0), some (pm_i v1), some (pm_i v2), u3] [] (mm x R Z Y o A c G g) Q) (k2 : ¬ (G 33 j1 = 0) → pW ns d 61 122 [some (pm_r 20 0), some (pm_i v1), some (pm_i v2), u3] [] (mm x R Z Y o A c G g) Q) : pW ns d 61 102 [some (pm_r 20 0), some (pm_i v1), some (pm_i v2), u3] [] (mm x R Z Y o A c G g) Q := by
  refine pW_eq 2 (pc' := 106) (L' := [some (pm_r 20 0), some (pm_i v1), some (pm_i v2), u3]) (S' := [pm_r 33 0]) (M' := (mm x R Z Y o A c G g)) (fun call n => ?_) ?_
  · refine Eq.trans (b := pm_g (mm x R Z Y o A c G g) 20 0 (pm_go call ns d 61 n 106 [some (pm_r 20 0), some (pm_i v1), some (pm_i v2), u3] [pm_a (R 20 0 13)] (mm x R Z Y o A c G g))) rfl ?_
    refine (g_ok (f := 20) (by decide) rfl).trans ?_
    exact (congrArg (fun z => pm_go call ns d 61 n 106 [some (pm_r 20 0), some (pm_i v1), some (pm_i v2), u3] [pm_a z] (mm x R Z Y o A c G g)) (rs_20_13 hR))
  refine pW_eq 6 (pc' := 113) (L' := [some (pm_r 20 0), some (pm_i v1), some (pm_i v2), u3]) (S' := [pm_i (G 33 j1)]) (M' := (mm x R Z Y o A c G g)) (fun call n => ?_) ?_
  · refine Eq.trans (b := pm_g (mm x R Z Y o A c G g) 33 0 (pm_ix (((nI 8) * v1) + v2) 64 (fun jx => pm_go call ns d 61 n 113 [some (pm_r 20 0), some (pm_i v1), some (pm_i v2), u3] [pm_i (G 33 jx)] (mm x R Z Y o A c G g)))) rfl ?_
    refine (g_ok (f := 33) (by decide) rfl).trans ?_
    refine (ix_ok (j := j1) e1 l1 (by decide)).trans ?_
    rfl
  exact pW_if 1 (c := G 33 j1 = 0) (fun call n => rfl) k1 k2
set_option maxRecDepth 20000 in
theorem b61_99 (hR : RS R) {v1 : Int32} {v2 : Int32} {u3 : Option pm_V}   (k : pW ns d 61 2 [some (pm_r 20 0), some (pm_i v1), some (pm_i (v2 + (nI 1))), u3] [] (mm x R Z Y o A c G g) Q) : pW ns d 61 99 [some (pm_r 20 0), some (pm_i v1), some (pm_i v2), u3] [] (mm x R Z Y o A c G g) Q := by
  exact pW_eq 3 (fun call n => rfl) k
set_option maxRecDepth 20000 in
theorem b61_116 (hR : RS R) {v1 : Int32} {v2 : Int32} {u3 : Option pm_V}  {x2 : Nat} {o2 : Int64} {A2 : Nat → Nat → Nat → Int32} {c2 : Nat → Int64} {G2 : Nat → Nat → Int32} {g2 : Nat → Int64}  (hE : pE ns d 60 [pm_r 20 0, pm_i v1, pm_i v2] (mm x R Z Y o A c G g) (.inl (none), (mm x2 R Z Y o2 A2 c2 G2 g2))) (k : pW ns d 61 122 [some (pm_r 20 0), some (pm_i v1), some (pm_i v2), u3] [] (mm x2 R Z Y o2 A2 c2 G2 g2) Q) : pW ns d 61 116 [some (pm_r 20 0), some (pm_i v1), some (pm_i v2), u3] [] (mm x R Z Y o A c G g) Q := by
  refine pW_call (pc' := 119) (r := []) (L' := [some (pm_r 20 0), some (pm_i v1), some (pm_i v2), u3]) 4 (fun call n => ?_) hE k
  exact Eq.trans (b := pm_g (mm x R Z Y o A c G g) 20 0 (pm_cl call 61 (pm_go call ns d 61 n) 119 60 [pm_r 20 0, pm_i v1, pm_i v2] [] [some (pm_r 20 0), some (pm_i v1), some (pm_i v2), u3] (mm x R Z Y o A c G g))) rfl (g_ok (f := 20) (by decide) rfl)
set_option maxRecDepth 20000 in
theorem t61_2 (hR : RS R) {v1 : Int32} {v2 : Int32} {u3 : Option pm_V}  (k1 : (nI 8 ≤ v2) → Q (.inl none, (mm x R Z Y o A c G g))) (k2 : (¬ (nI 8 ≤ v2)) → pW ns d 61 8 [some (pm_r 20 0), some (pm_i v1), some (pm_i v2), u3] [] (mm x R Z Y o A c G g) Q) : pW ns d 61 2 [some (pm_r 20 0), some (pm_i v1), some (pm_i v2), u3] [] (mm x R Z Y o A c G g) Q := by
  refine b61_2 hR  (fun h1 => ?_) (fun h1 => ?_)
  · skip
    exact b61_128 hR   (k1 h1)
  · skip
    exact (k2 h1)
set_option maxRecDepth 20000 in
theorem t61_8 (hR : RS R) {v1 : Int32} {v2 : Int32} {u3 : Option pm_V} {j1 : Nat} (e1 : v1 = nI j1) (l1 : j1 < 8) (k1 : (G 21 j1 = nI 1) → (((G 25 j1) &&& ((G 24 j1) ^^^ (-nI 1))) &&& ((nI 1) <<< (v2 &&& 31)) = 0) → pW ns d 61 2 [some (pm_r 20 0), some (pm_i v1), some (pm_i (v2 + (nI 1))), some (pm_i (nI 0))] [] (mm x R Z Y o A c G g) Q) (k2 : (G 21 j1 = nI 1) → (¬ (((G 25 j1) &&& ((G 24 j1) ^^^ (-nI 1))) &&& ((nI 1) <<< (v2 &&& 31)) = 0)) → pW ns d 61 60 [some (pm_r 20 0), some (pm_i v1), some (pm_i v2), some (pm_i (nI 1))] [] (mm x R Z Y o A c G g) Q) (k3 : (¬ (G 21 j1 = nI 1)) → (G 21 j1 = nI 2) → (((G 25 j1) &&& ((G 24 j1) ^^^ (-nI 1))) &&& ((nI 1) <<< (v2 &&& 31)) = 0) → pW ns d 61 2 [some (pm_r 20 0), some (pm_i v1), some (pm_i (v2 + (nI 1))), some (pm_i (nI 0))] [] (mm x R Z Y o A c G g) Q) (k4 : (¬ (G 21 j1 = nI 1)) → (G 21 j1 = nI 2) → (¬ (((G 25 j1) &&& ((G 24 j1) ^^^ (-nI 1))) &&& ((nI 1) <<< (v2 &&& 31)) = 0)) → pW ns d 61 60 [some (pm_r 20 0), some (pm_i v1), some (pm_i v2), some (pm_i (nI 1))] [] (mm x R Z Y o A c G g) Q) (k5 : (¬ (G 21 j1 = nI 1)) → (¬ (G 21 j1 = nI 2)) → pW ns d 61 2 [some (pm_r 20 0), some (pm_i v1), some (pm_i (v2 + (nI 1))), some (pm_i (nI 0))] [] (mm x R Z Y o A c G g) Q) : pW ns d 61 8 [some (pm_r 20 0), some (pm_i v1), some (pm_i v2), u3] [] (mm x R Z Y o A c G g) Q := by
  refine b61_8 hR e1 l1 (fun h1 => ?_) (fun h1 => ?_)
  · skip
    refine b61_28 hR  e1 l1 (fun h2 => ?_) (fun h2 => ?_)
    · skip
      refine b61_54 hR   (fun h3 => ?_) (fun h3 => ?_)
      · skip
        exact b61_122 hR   (k1 h1 h2)
      · exact absurd h3 (by decide)
    · skip
      refine b61_50 hR   (fun h3 => ?_) (fun h3 => ?_)
      · exact absurd h3 (by decide)
      · skip
        exact (k2 h1 h2)
  · skip
    refine b61_18 hR  e1 l1 (fun h2 => ?_) (fun h2 => ?_)
    · skip
      refine b61_28 hR  e1 l1 (fun h3 => ?_) (fun h3 => ?_)
      · skip
        refine b61_54 hR   (fun h4 => ?_) (fun h4 => ?_)
        · skip
          exact b61_122 hR   (k3 h1 h2 h3)
        · exact absurd h4 (by decide)
      · skip
        refine b61_50 hR   (fun h4 => ?_) (fun h4 => ?_)
        · exact absurd h4 (by decide)
        · skip
          exact (k4 h1 h2 h3)
    · skip
      refine b61_54 hR   (fun h3 => ?_) (fun h3 => ?_)
      · skip
        exact b61_122 hR   (k5 h1 h2)
      · exact absurd h3 (by decide)
set_option maxRecDepth 20000 in
theorem t61_28 (hR : RS R) {v1 : Int32} {v2 : Int32} {u3 : Option pm_V} {j1 : Nat} (e1 : v1 = nI j1) (l1 : j1 < 8) (k1 : (((G 25 j1) &&& ((G 24 j1) ^^^ (-nI 1))) &&& ((nI 1) <<< (v2 &&& 31)) = 0) → pW ns d 61 2 [some (pm_r 20 0), some (pm_i v1), some (pm_i (v2 + (nI 1))), some (pm_i (nI 0))] [] (mm x R Z Y o A c G g) Q) (k2 : (¬ (((G 25 j1) &&& ((G 24 j1) ^^^ (-nI 1))) &&& ((nI 1) <<< (v2 &&& 31)) = 0)) → pW ns d 61 60 [some (pm_r 20 0), some (pm_i v1), some (pm_i v2), some (pm_i (nI 1))] [] (mm x R Z Y o A c G g) Q) : pW ns d 61 28 [some (pm_r 20 0), some (pm_i v1), some (pm_i v2), u3] [] (mm x R Z Y o A c G g) Q := by
  refine b61_28 hR e1 l1 (fun h1 => ?_) (fun h1 => ?_)
  · skip
    refine b61_54 hR   (fun h2 => ?_) (fun h2 => ?_)
    · skip
      exact b61_122 hR   (k1 h1)
    · exact absurd h2 (by decide)
  · skip
    refine b61_50 hR   (fun h2 => ?_) (fun h2 => ?_)
    · exact absurd h2 (by decide)
    · skip
      exact (k2 h1)
set_option maxRecDepth 20000 in
theorem t61_18 (hR : RS R) {v1 : Int32} {v2 : Int32} {u3 : Option pm_V} {j1 : Nat} (e1 : v1 = nI j1) (l1 : j1 < 8) (k1 : (G 21 j1 = nI 2) → (((G 25 j1) &&& ((G 24 j1) ^^^ (-nI 1))) &&& ((nI 1) <<< (v2 &&& 31)) = 0) → pW ns d 61 2 [some (pm_r 20 0), some (pm_i v1), some (pm_i (v2 + (nI 1))), some (pm_i (nI 0))] [] (mm x R Z Y o A c G g) Q) (k2 : (G 21 j1 = nI 2) → (¬ (((G 25 j1) &&& ((G 24 j1) ^^^ (-nI 1))) &&& ((nI 1) <<< (v2 &&& 31)) = 0)) → pW ns d 61 60 [some (pm_r 20 0), some (pm_i v1), some (pm_i v2), some (pm_i (nI 1))] [] (mm x R Z Y o A c G g) Q) (k3 : (¬ (G 21 j1 = nI 2)) → pW ns d 61 2 [some (pm_r 20 0), some (pm_i v1), some (pm_i (v2 + (nI 1))), some (pm_i (nI 0))] [] (mm x R Z Y o A c G g) Q) : pW ns d 61 18 [some (pm_r 20 0), some (pm_i v1), some (pm_i v2), u3] [] (mm x R Z Y o A c G g) Q := by
  refine b61_18 hR e1 l1 (fun h1 => ?_) (fun h1 => ?_)
  · skip
    refine b61_28 hR  e1 l1 (fun h2 => ?_) (fun h2 => ?_)
    · skip
      refine b61_54 hR   (fun h3 => ?_) (fun h3 => ?_)
      · skip
        exact b61_122 hR   (k1 h1 h2)
      · exact absurd h3 (by decide)
    · skip
      refine b61_50 hR   (fun h3 => ?_) (fun h3 => ?_)
      · exact absurd h3 (by decide)
      · skip
        exact (k2 h1 h2)
  · skip
    refine b61_54 hR   (fun h2 => ?_) (fun h2 => ?_)
    · skip
      exact b61_122 hR   (k3 h1)
    · exact absurd h2 (by decide)
set_option maxRecDepth 20000 in
theorem t61_54 (hR : RS R) {v1 : Int32} {v2 : Int32} {u3 : Option pm_V}  (k1 : pW ns d 61 2 [some (pm_r 20 0), some (pm_i v1), some (pm_i (v2 + (nI 1))), some (pm_i (nI 0))] [] (mm x R Z Y o A c G g) Q) : pW ns d 61 54 [some (pm_r 20 0), some (pm_i v1), some (pm_i v2), u3] [] (mm x R Z Y o A c G g) Q := by
  refine b61_54 hR  (fun h1 => ?_) (fun h1 => ?_)
  · skip
    exact b61_122 hR   (k1 )
  · exact absurd h1 (by decide)
set_option maxRecDepth 20000 in
theorem t61_50 (hR : RS R) {v1 : Int32} {v2 : Int32} {u3 : Option pm_V}  (k1 : pW ns d 61 60 [some (pm_r 20 0), some (pm_i v1), some (pm_i v2), some (pm_i (nI 1))] [] (mm x R Z Y o A c G g) Q) : pW ns d 61 50 [some (pm_r 20 0), some (pm_i v1), some (pm_i v2), u3] [] (mm x R Z Y o A c G g) Q := by
  refine b61_50 hR  (fun h1 => ?_) (fun h1 => ?_)
  · exact absurd h1 (by decide)
  · skip
    exact (k1 )
set_option maxRecDepth 20000 in
theorem t61_60 (hR : RS R) {v1 : Int32} {v2 : Int32} {u3 : Option pm_V} {j1 : Nat} {j2 : Nat} (e1 : v1 = nI j1) (l1 : j1 < 8) (e2 : ((nI 8) * v1) + v2 = nI j2) (l2 : j2 < 64) (k1 : ((pm_v G 25 j1 ((G 25 j1) &&& (((nI 1) <<< (v2 &&& 31)) ^^^ (-nI 1)))) 33 j2 = nI 2) → pW ns d 61 93 [some (pm_r 20 0), some (pm_i v1), some (pm_i v2), u3] [] (mm x R Z Y o A c (pm_v G 25 j1 ((G 25 j1) &&& (((nI 1) <<< (v2 &&& 31)) ^^^ (-nI 1)))) g) Q) (k2 : (¬ ((pm_v G 25 j1 ((G 25 j1) &&& (((nI 1) <<< (v2 &&& 31)) ^^^ (-nI 1)))) 33 j2 = nI 2)) → ((pm_v G 25 j1 ((G 25 j1) &&& (((nI 1) <<< (v2 &&& 31)) ^^^ (-nI 1)))) 33 j2 = 0) → pW ns d 61 116 [some (pm_r 20 0), some (pm_i v1), some (pm_i v2), u3] [] (mm x R Z Y o A c (pm_v G 25 j1 ((G 25 j1) &&& (((nI 1) <<< (v2 &&& 31)) ^^^ (-nI 1)))) g) Q) (k3 : (¬ ((pm_v G 25 j1 ((G 25 j1) &&& (((nI 1) <<< (v2 &&& 31)) ^^^ (-nI 1)))) 33 j2 = nI 2)) → (¬ ((pm_v G 25 j1 ((G 25 j1) &&& (((nI 1) <<< (v2 &&& 31)) ^^^ (-nI 1)))) 33 j2 = 0)) → pW ns d 61 2 [some (pm_r 20 0), some (pm_i v1), some (pm_i (v2 + (nI 1))), u3] [] (mm x R Z Y o A c (pm_v G 25 j1 ((G 25 j1) &&& (((nI 1) <<< (v2 &&& 31)) ^^^ (-nI 1)))) g) Q) : pW ns d 61 60 [some (pm_r 20 0), some (pm_i v1), some (pm_i v2), u3] [] (mm x R Z Y o A c G g) Q := by
  refine b61_60 hR e1 l1 e2 l2 (fun h1 => ?_) (fun h1 => ?_)
  · skip
    exact (k1 h1)
  · skip
    refine b61_102 hR  e2 l2 (fun h2 => ?_) (fun h2 => ?_)
    · skip
      exact (k2 h1 h2)
    · skip
      exact b61_122 hR   (k3 h1 h2)
set_option maxRecDepth 20000 in
theorem t61_102 (hR : RS R) {v1 : Int32} {v2 : Int32} {u3 : Option pm_V} {j1 : Nat} (e1 : ((nI 8) * v1) + v2 = nI j1) (l1 : j1 < 64) (k1 : (G 33 j1 = 0) → pW ns d 61 116 [some (pm_r 20 0), some (pm_i v1), some (pm_i v2), u3] [] (mm x R Z Y o A c G g) Q) (k2 : (¬ (G 33 j1 = 0)) → pW ns d 61 2 [some (pm_r 20 0), some (pm_i v1), some (pm_i (v2 + (nI 1))), u3] [] (mm x R Z Y o A c G g) Q) : pW ns d 61 102 [some (pm_r 20 0), some (pm_i v1), some (pm_i v2), u3] [] (mm x R Z Y o A c G g) Q := by
  refine b61_102 hR e1 l1 (fun h1 => ?_) (fun h1 => ?_)
  · skip
    exact (k1 h1)
  · skip
    exact b61_122 hR   (k2 h1)
/-! 62 JobLayerModel.comes -/
set_option maxRecDepth 20000 in
theorem b62_0 (hR : RS R) {v1 : Int32} {v2 : Int32} {u3 : Option pm_V}  {x2 : Nat} {o2 : Int64} {A2 : Nat → Nat → Nat → Int32} {c2 : Nat → Int64} {G2 : Nat → Nat → Int32} {g2 : Nat → Int64} {y : Int32} (hE : pE ns d 48 [pm_r 20 0, pm_i v1] (mm x R Z Y o A c G g) (.inl (some (pm_i y)), (mm x2 R Z Y o2 A2 c2 G2 g2))) (k : pW ns d 62 5 [some (pm_r 20 0), some (pm_i v1), some (pm_i v2), u3] [pm_i y] (mm x2 R Z Y o2 A2 c2 G2 g2) Q) : pW ns d 62 0 [some (pm_r 20 0), some (pm_i v1), some (pm_i v2), u3] [] (mm x R Z Y o A c G g) Q := by
  refine pW_call (pc' := 2) (r := []) (L' := [some (pm_r 20 0), some (pm_i v1), some (pm_i v2), u3]) 3 (fun call n => ?_) hE k
  exact Eq.trans (b := pm_g (mm x R Z Y o A c G g) 20 0 (pm_cl call 62 (pm_go call ns d 62 n) 2 48 [pm_r 20 0, pm_i v1] [] [some (pm_r 20 0), some (pm_i v1), some (pm_i v2), u3] (mm x R Z Y o A c G g))) rfl (g_ok (f := 20) (by decide) rfl)
set_option maxRecDepth 20000 in
theorem b62_5 (hR : RS R) {v1 : Int32} {v2 : Int32} {u3 : Option pm_V} {vs0 : Int32}   (k1 : vs0 = 0 → pW ns d 62 8 [some (pm_r 20 0), some (pm_i v1), some (pm_i v2), u3] [] (mm x R Z Y o A c G g) Q) (k2 : ¬ (vs0 = 0) → pW ns d 62 9 [some (pm_r 20 0), some (pm_i v1), some (pm_i v2), u3] [] (mm x R Z Y o A c G g) Q) : pW ns d 62 5 [some (pm_r 20 0), some (pm_i v1), some (pm_i v2), u3] [pm_i vs0] (mm x R Z Y o A c G g) Q := by
  exact pW_if 1 (c := vs0 = 0) (fun call n => rfl) k1 k2
set_option maxRecDepth 20000 in
theorem b62_8 (hR : RS R) {u0 : Option pm_V} {u1 : Option pm_V} {u2 : Option pm_V} {u3 : Option pm_V}   (k : Q (.inl none, (mm x R Z Y o A c G g))) : pW ns d 62 8 [u0, u1, u2, u3] [] (mm x R Z Y o A c G g) Q := by
  refine pW_ret 1 (fun call n => ?_) k
  rfl
set_option maxRecDepth 20000 in
theorem b62_9 (hR : RS R) {v1 : Int32} {v2 : Int32} {u3 : Option pm_V}   (k1 : v2 = nI 6 → pW ns d 62 15 [some (pm_r 20 0), some (pm_i v1), some (pm_i v2), u3] [] (mm x R Z Y o A c G g) Q) (k2 : ¬ (v2 = nI 6) → pW ns d 62 52 [some (pm_r 20 0), some (pm_i v1), some (pm_i v2), u3] [] (mm x R Z Y o A c G g) Q) : pW ns d 62 9 [some (pm_r 20 0), some (pm_i v1), some (pm_i v2), u3] [] (mm x R Z Y o A c G g) Q := by
  exact pW_if 3 (c := v2 = nI 6) (fun call n => rfl) k1 k2
set_option maxRecDepth 20000 in
theorem b62_15 (hR : RS R) {v1 : Int32} {v2 : Int32} {u3 : Option pm_V} {j1 : Nat} (e1 : v1 = nI j1) (l1 : j1 < 8)  (k1 : (pm_v G 25 j1 ((G 25 j1) &&& (-nI 49))) 21 j1 = nI 3 → pW ns d 62 40 [some (pm_r 20 0), some (pm_i v1), some (pm_i v2), u3] [] (mm x R Z Y o A c (pm_v G 25 j1 ((G 25 j1) &&& (-nI 49))) g) Q) (k2 : ¬ ((pm_v G 25 j1 ((G 25 j1) &&& (-nI 49))) 21 j1 = nI 3) → pW ns d 62 52 [some (pm_r 20 0), some (pm_i v1), some (pm_i v2), u3] [] (mm x R Z Y o A c (pm_v G 25 j1 ((G 25 j1) &&& (-nI 49))) g) Q) : pW ns d 62 15 [some (pm_r 20 0), some (pm_i v1), some (pm_i v2), u3] [] (mm x R Z Y o A c G g) Q := by
  refine pW_eq 2 (pc' := 19) (L' := [some (pm_r 20 0), some (pm_i v1), some (pm_i v2), u3]) (S' := [pm_r 25 0]) (M' := (mm x R Z Y o A c G g)) (fun call n => ?_) ?_
  · refine Eq.trans (b := pm_g (mm x R Z Y o A c G g) 20 0 (pm_go call ns d 62 n 19 [some (pm_r 20 0), some (pm_i v1), some (pm_i v2), u3] [pm_a (R 20 0 5)] (mm x R Z Y o A c G g))) rfl ?_
    refine (g_ok (f := 20) (by decide) rfl).trans ?_
    exact (congrArg (fun z => pm_go call ns d 62 n 19 [some (pm_r 20 0), some (pm_i v1), some (pm_i v2), u3] [pm_a z] (mm x R Z Y o A c G g)) (rs_20_5 hR))
  refine pW_eq 3 (pc' := 24) (L' := [some (pm_r 20 0), some (pm_i v1), some (pm_i v2), u3]) (S' := [pm_r 25 0, pm_i v1, pm_r 25 0]) (M' := (mm x R Z Y o A c G g)) (fun call n => ?_) ?_
  · refine Eq.trans (b := pm_g (mm x R Z Y o A c G g) 20 0 (pm_go call ns d 62 n 24 [some (pm_r 20 0), some (pm_i v1), some (pm_i v2), u3] [pm_a (R 20 0 5), pm_i v1, pm_r 25 0] (mm x R Z Y o A c G g))) rfl ?_
    refine (g_ok (f := 20) (by decide) rfl).trans ?_
    exact (congrArg (fun z => pm_go call ns d 62 n 24 [some (pm_r 20 0), some (pm_i v1), some (pm_i v2), u3] [pm_a z, pm_i v1, pm_r 25 0] (mm x R Z Y o A c G g)) (rs_20_5 hR))
  refine pW_eq 2 (pc' := 26) (L' := [some (pm_r 20 0), some (pm_i v1), some (pm_i v2), u3]) (S' := [pm_i (G 25 j1), pm_i v1, pm_r 25 0]) (M' := (mm x R Z Y o A c G g)) (fun call n => ?_) ?_
  · refine Eq.trans (b := pm_g (mm x R Z Y o A c G g) 25 0 (pm_ix (v1) 8 (fun jx => pm_go call ns d 62 n 26 [some (pm_r 20 0), some (pm_i v1), some (pm_i v2), u3] [pm_i (G 25 jx), pm_i v1, pm_r 25 0] (mm x R Z Y o A c G g)))) rfl ?_
    refine (g_ok (f := 25) (by decide) rfl).trans ?_
    refine (ix_ok (j := j1) e1 l1 (by decide)).trans ?_
    rfl
  refine pW_eq 3 (pc' := 30) (L' := [some (pm_r 20 0), some (pm_i v1), some (pm_i v2), u3]) (S' := []) (M' := (mm x R Z Y o A c (pm_v G 25 j1 ((G 25 j1) &&& (-nI 49))) g)) (fun call n => ?_) ?_
  · refine Eq.trans (b := pm_g (mm x R Z Y o A c G g) 25 0 (pm_ix (v1) 8 (fun jx => pm_go call ns d 62 n 30 [some (pm_r 20 0), some (pm_i v1), some (pm_i v2), u3] [] (pm_u (mA Z A G) 25 0 jx ((G 25 j1) &&& (-nI 49)), mB Y o c g, R, pm_tot, x)))) rfl ?_
    refine (g_ok (f := 25) (by decide) rfl).trans ?_
    refine (ix_ok (j := j1) e1 l1 (by decide)).trans ?_
    exact (congrArg (fun z => pm_go call ns d 62 n 30 [some (pm_r 20 0), some (pm_i v1), some (pm_i v2), u3] [] (z, mB Y o c g, R, pm_tot, x)) (uG (by decide)))
  refine pW_eq 2 (pc' := 34) (L' := [some (pm_r 20 0), some (pm_i v1), some (pm_i v2), u3]) (S' := [pm_r 21 0]) (M' := (mm x R Z Y o A c (pm_v G 25 j1 ((G 25 j1) &&& (-nI 49))) g)) (fun call n => ?_) ?_
  · refine Eq.trans (b := pm_g (mm x R Z Y o A c (pm_v G 25 j1 ((G 25 j1) &&& (-nI 49))) g) 20 0 (pm_go call ns d 62 n 34 [some (pm_r 20 0), some (pm_i v1), some (pm_i v2), u3] [pm_a (R 20 0 1)] (mm x R Z Y o A c (pm_v G 25 j1 ((G 25 j1) &&& (-nI 49))) g))) rfl ?_
    refine (g_ok (f := 20) (by decide) rfl).trans ?_
    exact (congrArg (fun z => pm_go call ns d 62 n 34 [some (pm_r 20 0), some (pm_i v1), some (pm_i v2), u3] [pm_a z] (mm x R Z Y o A c (pm_v G 25 j1 ((G 25 j1) &&& (-nI 49))) g)) (rs_20_1 hR))
  refine pW_eq 2 (pc' := 36) (L' := [some (pm_r 20 0), some (pm_i v1), some (pm_i v2), u3]) (S' := [pm_i ((pm_v G 25 j1 ((G 25 j1) &&& (-nI 49))) 21 j1)]) (M' := (mm x R Z Y o A c (pm_v G 25 j1 ((G 25 j1) &&& (-nI 49))) g)) (fun call n => ?_) ?_
  · refine Eq.trans (b := pm_g (mm x R Z Y o A c (pm_v G 25 j1 ((G 25 j1) &&& (-nI 49))) g) 21 0 (pm_ix (v1) 8 (fun jx => pm_go call ns d 62 n 36 [some (pm_r 20 0), some (pm_i v1), some (pm_i v2), u3] [pm_i ((pm_v G 25 j1 ((G 25 j1) &&& (-nI 49))) 21 jx)] (mm x R Z Y o A c (pm_v G 25 j1 ((G 25 j1) &&& (-nI 49))) g)))) rfl ?_
    refine (g_ok (f := 21) (by decide) rfl).trans ?_
    refine (ix_ok (j := j1) e1 l1 (by decide)).trans ?_
    rfl
  exact pW_if 2 (c := (pm_v G 25 j1 ((G 25 j1) &&& (-nI 49))) 21 j1 = nI 3) (fun call n => rfl) k1 k2
set_option maxRecDepth 20000 in
theorem b62_52 (hR : RS R) {v1 : Int32} {v2 : Int32} {u3 : Option pm_V}   (k1 : v2 = nI 4 → pW ns d 62 62 [some (pm_r 20 0), some (pm_i v1), some (pm_i v2), u3] [] (mm x R Z Y o A c G g) Q) (k2 : ¬ (v2 = nI 4) → pW ns d 62 57 [some (pm_r 20 0), some (pm_i v1), some (pm_i v2), u3] [] (mm x R Z Y o A c G g) Q) : pW ns d 62 52 [some (pm_r 20 0), some (pm_i v1), some (pm_i v2), u3] [] (mm x R Z Y o A c G g) Q := by
  exact pW_if 3 (c := v2 = nI 4) (fun call n => rfl) k1 k2
set_option maxRecDepth 20000 in
theorem b62_40 (hR : RS R) {v1 : Int32} {v2 : Int32} {u3 : Option pm_V} {j1 : Nat} (e1 : v1 = nI j1) (l1 : j1 < 8)  (k1 : v2 = nI 4 → pW ns d 62 62 [some (pm_r 20 0), some (pm_i v1), some (pm_i v2), u3] [] (mm x R Z Y o A c (pm_v G 21 j1 (G 30 j1)) g) Q) (k2 : ¬ (v2 = nI 4) → pW ns d 62 57 [some (pm_r 20 0), some (pm_i v1), some (pm_i v2), u3] [] (mm x R Z Y o A c (pm_v G 21 j1 (G 30 j1)) g) Q) : pW ns d 62 40 [some (pm_r 20 0), some (pm_i v1), some (pm_i v2), u3] [] (mm x R Z Y o A c G g) Q := by
  refine pW_eq 2 (pc' := 44) (L' := [some (pm_r 20 0), some (pm_i v1), some (pm_i v2), u3]) (S' := [pm_r 21 0]) (M' := (mm x R Z Y o A c G g)) (fun call n => ?_) ?_
  · refine Eq.trans (b := pm_g (mm x R Z Y o A c G g) 20 0 (pm_go call ns d 62 n 44 [some (pm_r 20 0), some (pm_i v1), some (pm_i v2), u3] [pm_a (R 20 0 1)] (mm x R Z Y o A c G g))) rfl ?_
    refine (g_ok (f := 20) (by decide) rfl).trans ?_
    exact (congrArg (fun z => pm_go call ns d 62 n 44 [some (pm_r 20 0), some (pm_i v1), some (pm_i v2), u3] [pm_a z] (mm x R Z Y o A c G g)) (rs_20_1 hR))
  refine pW_eq 3 (pc' := 49) (L' := [some (pm_r 20 0), some (pm_i v1), some (pm_i v2), u3]) (S' := [pm_r 30 0, pm_i v1, pm_r 21 0]) (M' := (mm x R Z Y o A c G g)) (fun call n => ?_) ?_
  · refine Eq.trans (b := pm_g (mm x R Z Y o A c G g) 20 0 (pm_go call ns d 62 n 49 [some (pm_r 20 0), some (pm_i v1), some (pm_i v2), u3] [pm_a (R 20 0 10), pm_i v1, pm_r 21 0] (mm x R Z Y o A c G g))) rfl ?_
    refine (g_ok (f := 20) (by decide) rfl).trans ?_
    exact (congrArg (fun z => pm_go call ns d 62 n 49 [some (pm_r 20 0), some (pm_i v1), some (pm_i v2), u3] [pm_a z, pm_i v1, pm_r 21 0] (mm x R Z Y o A c G g)) (rs_20_10 hR))
  refine pW_eq 2 (pc' := 51) (L' := [some (pm_r 20 0), some (pm_i v1), some (pm_i v2), u3]) (S' := [pm_i (G 30 j1), pm_i v1, pm_r 21 0]) (M' := (mm x R Z Y o A c G g)) (fun call n => ?_) ?_
  · refine Eq.trans (b := pm_g (mm x R Z Y o A c G g) 30 0 (pm_ix (v1) 8 (fun jx => pm_go call ns d 62 n 51 [some (pm_r 20 0), some (pm_i v1), some (pm_i v2), u3] [pm_i (G 30 jx), pm_i v1, pm_r 21 0] (mm x R Z Y o A c G g)))) rfl ?_
    refine (g_ok (f := 30) (by decide) rfl).trans ?_
    refine (ix_ok (j := j1) e1 l1 (by decide)).trans ?_
    rfl
  refine pW_eq 1 (pc' := 52) (L' := [some (pm_r 20 0), some (pm_i v1), some (pm_i v2), u3]) (S' := []) (M' := (mm x R Z Y o A c (pm_v G 21 j1 (G 30 j1)) g)) (fun call n => ?_) ?_
  · refine Eq.trans (b := pm_g (mm x R Z Y o A c G g) 21 0 (pm_ix (v1) 8 (fun jx => pm_go call ns d 62 n 52 [some (pm_r 20 0), some (pm_i v1), some (pm_i v2), u3] [] (pm_u (mA Z A G) 21 0 jx (G 30 j1), mB Y o c g, R, pm_tot, x)))) rfl ?_
    refine (g_ok (f := 21) (by decide) rfl).trans ?_
    refine (ix_ok (j := j1) e1 l1 (by decide)).trans ?_
    exact (congrArg (fun z => pm_go call ns d 62 n 52 [some (pm_r 20 0), some (pm_i v1), some (pm_i v2), u3] [] (z, mB Y o c g, R, pm_tot, x)) (uG (by decide)))
  exact pW_if 3 (c := v2 = nI 4) (fun call n => rfl) k1 k2
set_option maxRecDepth 20000 in
theorem b62_62 (hR : RS R) {v1 : Int32} {v2 : Int32} {u3 : Option pm_V} {j1 : Nat} (e1 : v1 = nI j1) (l1 : j1 < 8)  (k1 : v2 = nI 8 → pW ns d 62 83 [some (pm_r 20 0), some (pm_i v1), some (pm_i v2), u3] [] (mm x R Z Y o A c (pm_v G 25 j1 ((G 25 j1) &&& (-nI 65))) g) Q) (k2 : ¬ (v2 = nI 8) → pW ns d 62 95 [some (pm_r 20 0), some (pm_i v1), some (pm_i v2), u3] [] (mm x R Z Y o A c (pm_v G 25 j1 ((G 25 j1) &&& (-nI 65))) g) Q) : pW ns d 62 62 [some (pm_r 20 0), some (pm_i v1), some (pm_i v2), u3] [] (mm x R Z Y o A c G g) Q := by
  refine pW_eq 2 (pc' := 66) (L' := [some (pm_r 20 0), some (pm_i v1), some (pm_i v2), u3]) (S' := [pm_r 25 0]) (M' := (mm x R Z Y o A c G g)) (fun call n => ?_) ?_
  · refine Eq.trans (b := pm_g (mm x R Z Y o A c G g) 20 0 (pm_go call ns d 62 n 66 [some (pm_r 20 0), some (pm_i v1), some (pm_i v2), u3] [pm_a (R 20 0 5)] (mm x R Z Y o A c G g))) rfl ?_
    refine (g_ok (f := 20) (by decide) rfl).trans ?_
    exact (congrArg (fun z => pm_go call ns d 62 n 66 [some (pm_r 20 0), some (pm_i v1), some (pm_i v2), u3] [pm_a z] (mm x R Z Y o A c G g)) (rs_20_5 hR))
  refine pW_eq 3 (pc' := 71) (L' := [some (pm_r 20 0), some (pm_i v1), some (pm_i v2), u3]) (S' := [pm_r 25 0, pm_i v1, pm_r 25 0]) (M' := (mm x R Z Y o A c G g)) (fun call n => ?_) ?_
  · refine Eq.trans (b := pm_g (mm x R Z Y o A c G g) 20 0 (pm_go call ns d 62 n 71 [some (pm_r 20 0), some (pm_i v1), some (pm_i v2), u3] [pm_a (R 20 0 5), pm_i v1, pm_r 25 0] (mm x R Z Y o A c G g))) rfl ?_
    refine (g_ok (f := 20) (by decide) rfl).trans ?_
    exact (congrArg (fun z => pm_go call ns d 62 n 71 [some (pm_r 20 0), some (pm_i v1), some (pm_i v2), u3] [pm_a z, pm_i v1, pm_r 25 0] (mm x R Z Y o A c G g)) (rs_20_5 hR))
  refine pW_eq 2 (pc' := 73) (L' := [some (pm_r 20 0), some (pm_i v1), some (pm_i v2), u3]) (S' := [pm_i (G 25 j1), pm_i v1, pm_r 25 0]) (M' := (mm x R Z Y o A c G g)) (fun call n => ?_) ?_
  · refine Eq.trans (b := pm_g (mm x R Z Y o A c G g) 25 0 (pm_ix (v1) 8 (fun jx => pm_go call ns d 62 n 73 [some (pm_r 20 0), some (pm_i v1), some (pm_i v2), u3] [pm_i (G 25 jx), pm_i v1, pm_r 25 0] (mm x R Z Y o A c G g)))) rfl ?_
    refine (g_ok (f := 25) (by decide) rfl).trans ?_
    refine (ix_ok (j := j1) e1 l1 (by decide)).trans ?_
    rfl
  refine pW_eq 3 (pc' := 77) (L' := [some (pm_r 20 0), some (pm_i v1), some (pm_i v2), u3]) (S' := []) (M' := (mm x R Z Y o A c (pm_v G 25 j1 ((G 25 j1) &&& (-nI 65))) g)) (fun call n => ?_) ?_
  · refine Eq.trans (b := pm_g (mm x R Z Y o A c G g) 25 0 (pm_ix (v1) 8 (fun jx => pm_go call ns d 62 n 77 [some (pm_r 20 0), some (pm_i v1), some (pm_i v2), u3] [] (pm_u (mA Z A G) 25 0 jx ((G 25 j1) &&& (-nI 65)), mB Y o c g, R, pm_tot, x)))) rfl ?_
    refine (g_ok (f := 25) (by decide) rfl).trans ?_
    refine (ix_ok (j := j1) e1 l1 (by decide)).trans ?_
    exact (congrArg (fun z => pm_go call ns d 62 n 77 [some (pm_r 20 0), some (pm_i v1), some (pm_i v2), u3] [] (z, mB Y o c g, R, pm_tot, x)) (uG (by decide)))
  exact pW_if 3 (c := v2 = nI 8) (fun call n => rfl) k1 k2
set_option maxRecDepth 20000 in
theorem b62_57 (hR : RS R) {v1 : Int32} {v2 : Int32} {u3 : Option pm_V}   (k1 : v2 = nI 5 → pW ns d 62 62 [some (pm_r 20 0), some (pm_i v1), some (pm_i v2), u3] [] (mm x R Z Y o A c G g) Q) (k2 : ¬ (v2 = nI 5) → pW ns d 62 77 [some (pm_r 20 0), some (pm_i v1), some (pm_i v2), u3] [] (mm x R Z Y o A c G g) Q) : pW ns d 62 57 [some (pm_r 20 0), some (pm_i v1), some (pm_i v2), u3] [] (mm x R Z Y o A c G g) Q := by
  exact pW_if 3 (c := v2 = nI 5) (fun call n => rfl) k1 k2
set_option maxRecDepth 20000 in
theorem b62_83 (hR : RS R) {v1 : Int32} {u2 : Option pm_V} {u3 : Option pm_V}   (k1 : v1 ≤ 0 → pW ns d 62 94 [some (pm_r 20 0), some (pm_i v1), u2, u3] [] (mm x R Z Y o A c G g) Q) (k2 : ¬ (v1 ≤ 0) → pW ns d 62 87 [some (pm_r 20 0), some (pm_i v1), u2, u3] [] (mm x R Z Y o A c G g) Q) : pW ns d 62 83 [some (pm_r 20 0), some (pm_i v1), u2, u3] [] (mm x R Z Y o A c G g) Q := by
  exact pW_if 2 (c := v1 ≤ 0) (fun call n => rfl) k1 k2
set_option maxRecDepth 20000 in
theorem b62_95 (hR : RS R) {v1 : Int32} {v2 : Int32} {u3 : Option pm_V} {j1 : Nat} (e1 : ((nI 8) * v1) + v2 = nI j1) (l1 : j1 < 64)  (k1 : G 33 j1 = nI 1 → pW ns d 62 139 [some (pm_r 20 0), some (pm_i v1), some (pm_i v2), some (pm_i (G 33 j1))] [] (mm x R Z Y o A c G g) Q) (k2 : ¬ (G 33 j1 = nI 1) → pW ns d 62 112 [some (pm_r 20 0), some (pm_i v1), some (pm_i v2), some (pm_i (G 33 j1))] [] (mm x R Z Y o A c G g) Q) : pW ns d 62 95 [some (pm_r 20 0), some (pm_i v1), some (pm_i v2), u3] [] (mm x R Z Y o A c G g) Q := by
  refine pW_eq 2 (pc' := 99) (L' := [some (pm_r 20 0), some (pm_i v1), some (pm_i v2), u3]) (S' := [pm_r 33 0]) (M' := (mm x R Z Y o A c G g)) (fun call n => ?_) ?_
  · refine Eq.trans (b := pm_g (mm x R Z Y o A c G g) 20 0 (pm_go call ns d 62 n 99 [some (pm_r 20 0), some (pm_i v1), some (pm_i v2), u3] [pm_a (R 20 0 13)] (mm x R Z Y o A c G g))) rfl ?_
    refine (g_ok (f := 20) (by decide) rfl).trans ?_
    exact (congrArg (fun z => pm_go call ns d 62 n 99 [some (pm_r 20 0), some (pm_i v1), some (pm_i v2), u3] [pm_a z] (mm x R Z Y o A c G g)) (rs_20_13 hR))
  refine pW_eq 6 (pc' := 106) (L' := [some (pm_r 20 0), some (pm_i v1), some (pm_i v2), u3]) (S' := [pm_i (G 33 j1)]) (M' := (mm x R Z Y o A c G g)) (fun call n => ?_) ?_
  · refine Eq.trans (b := pm_g (mm x R Z Y o A c G g) 33 0 (pm_ix (((nI 8) * v1) + v2) 64 (fun jx => pm_go call ns d 62 n 106 [some (pm_r 20 0), some (pm_i v1), some (pm_i v2), u3] [pm_i (G 33 jx)] (mm x R Z Y o A c G g)))) rfl ?_
    refine (g_ok (f := 33) (by decide) rfl).trans ?_
    refine (ix_ok (j := j1) e1 l1 (by decide)).trans ?_
    rfl
  exact pW_if 4 (c := G 33 j1 = nI 1) (fun call n => rfl) k1 k2
set_option maxRecDepth 20000 in
theorem b62_77 (hR : RS R) {v1 : Int32} {v2 : Int32} {u3 : Option pm_V}   (k1 : v2 = nI 8 → pW ns d 62 83 [some (pm_r 20 0), some (pm_i v1), some (pm_i v2), u3] [] (mm x R Z Y o A c G g) Q) (k2 : ¬ (v2 = nI 8) → pW ns d 62 95 [some (pm_r 20 0), some (pm_i v1), some (pm_i v2), u3] [] (mm x R Z Y o A c G g) Q) : pW ns d 62 77 [some (pm_r 20 0), some (pm_i v1), some (pm_i v2), u3] [] (mm x R Z Y o A c G g) Q := by
  exact pW_if 3 (c := v2 = nI 8) (fun call n => rfl) k1 k2
set_option maxRecDepth 20000 in
theorem b62_94 (hR : RS R) {u0 : Option pm_V} {u1 : Option pm_V} {u2 : Option pm_V} {u3 : Option pm_V}   (k : Q (.inl none, (mm x R Z Y o A c G g))) : pW ns d 62 94 [u0, u1, u2, u3] [] (mm x R Z Y o A c G g) Q := by
  refine pW_ret 1 (fun call n => ?_) k
  rfl
set_option maxRecDepth 20000 in
theorem b62_87 (hR : RS R) {v1 : Int32} {u2 : Option pm_V} {u3 : Option pm_V}  {x2 : Nat} {o2 : Int64} {A2 : Nat → Nat → Nat → Int32} {c2 : Nat → Int64} {G2 : Nat → Nat → Int32} {g2 : Nat → Int64}  (hE : pE ns d 59 [pm_r 20 0, pm_i v1, pm_i (nI 72)] (mm x R Z Y o A c G g) (.inl (none), (mm x2 R Z Y o2 A2 c2 G2 g2))) (k : pW ns d 62 94 [some (pm_r 20 0), some (pm_i v1), u2, u3] [] (mm x2 R Z Y o2 A2 c2 G2 g2) Q) : pW ns d 62 87 [some (pm_r 20 0), some (pm_i v1), u2, u3] [] (mm x R Z Y o A c G g) Q := by
  refine pW_call (pc' := 91) (r := []) (L' := [some (pm_r 20 0), some (pm_i v1), u2, u3]) 4 (fun call n => ?_) hE k
  exact Eq.trans (b := pm_g (mm x R Z Y o A c G g) 20 0 (pm_cl call 62 (pm_go call ns d 62 n) 91 59 [pm_r 20 0, pm_i v1, pm_i (nI 72)] [] [some (pm_r 20 0), some (pm_i v1), u2, u3] (mm x R Z Y o A c G g))) rfl (g_ok (f := 20) (by decide) rfl)
set_option maxRecDepth 20000 in
theorem b62_139 (hR : RS R) {v1 : Int32} {u2 : Option pm_V} {u3 : Option pm_V}  {x2 : Nat} {o2 : Int64} {A2 : Nat → Nat → Nat → Int32} {c2 : Nat → Int64} {G2 : Nat → Nat → Int32} {g2 : Nat → Int64}  (hE : pE ns d 61 [pm_r 20 0, pm_i v1] (mm x R Z Y o A c G g) (.inl (none), (mm x2 R Z Y o2 A2 c2 G2 g2))) (k : pW ns d 62 144 [some (pm_r 20 0), some (pm_i v1), u2, u3] [] (mm x2 R Z Y o2 A2 c2 G2 g2) Q) : pW ns d 62 139 [some (pm_r 20 0), some (pm_i v1), u2, u3] [] (mm x R Z Y o A c G g) Q := by
  refine pW_call (pc' := 141) (r := []) (L' := [some (pm_r 20 0), some (pm_i v1), u2, u3]) 3 (fun call n => ?_) hE k
  exact Eq.trans (b := pm_g (mm x R Z Y o A c G g) 20 0 (pm_cl call 62 (pm_go call ns d 62 n) 141 61 [pm_r 20 0, pm_i v1] [] [some (pm_r 20 0), some (pm_i v1), u2, u3] (mm x R Z Y o A c G g))) rfl (g_ok (f := 20) (by decide) rfl)
set_option maxRecDepth 20000 in
theorem b62_112 (hR : RS R) {v1 : Int32} {v2 : Int32} {v3 : Int32}   (k1 : v3 = nI 2 → pW ns d 62 123 [some (pm_r 20 0), some (pm_i v1), some (pm_i v2), some (pm_i v3)] [] (mm x R Z Y o A c G g) Q) (k2 : ¬ (v3 = nI 2) → pW ns d 62 117 [some (pm_r 20 0), some (pm_i v1), some (pm_i v2), some (pm_i v3)] [] (mm x R Z Y o A c G g) Q) : pW ns d 62 112 [some (pm_r 20 0), some (pm_i v1), some (pm_i v2), some (pm_i v3)] [] (mm x R Z Y o A c G g) Q := by
  exact pW_if 3 (c := v3 = nI 2) (fun call n => rfl) k1 k2
set_option maxRecDepth 20000 in
theorem b62_144 (hR : RS R) {u0 : Option pm_V} {u1 : Option pm_V} {u2 : Option pm_V} {u3 : Option pm_V}   (k : Q (.inl none, (mm x R Z Y o A c G g))) : pW ns d 62 144 [u0, u1, u2, u3] [] (mm x R Z Y o A c G g) Q := by
  refine pW_ret 1 (fun call n => ?_) k
  rfl
set_option maxRecDepth 20000 in
theorem b62_123 (hR : RS R) {v1 : Int32} {v2 : Int32} {u3 : Option pm_V} {j1 : Nat} (e1 : v1 = nI j1) (l1 : j1 < 8) {x2 : Nat} {o2 : Int64} {A2 : Nat → Nat → Nat → Int32} {c2 : Nat → Int64} {G2 : Nat → Nat → Int32} {g2 : Nat → Int64}  (hE : pE ns d 61 [pm_r 20 0, pm_i v1] (mm x R Z Y o A c (pm_v G 25 j1 ((G 25 j1) ||| ((nI 1) <<< (v2 &&& 31)))) g) (.inl (none), (mm x2 R Z Y o2 A2 c2 G2 g2))) (k : pW ns d 62 144 [some (pm_r 20 0), some (pm_i v1), some (pm_i v2), u3] [] (mm x2 R Z Y o2 A2 c2 G2 g2) Q) : pW ns d 62 123 [some (pm_r 20 0), some (pm_i v1), some (pm_i v2), u3] [] (mm x R Z Y o A c G g) Q := by
  refine pW_eq 2 (pc' := 127) (L' := [some (pm_r 20 0), some (pm_i v1), some (pm_i v2), u3]) (S' := [pm_r 25 0]) (M' := (mm x R Z Y o A c G g)) (fun call n => ?_) ?_
  · refine Eq.trans (b := pm_g (mm x R Z Y o A c G g) 20 0 (pm_go call ns d 62 n 127 [some (pm_r 20 0), some (pm_i v1), some (pm_i v2), u3] [pm_a (R 20 0 5)] (mm x R Z Y o A c G g))) rfl ?_
    refine (g_ok (f := 20) (by decide) rfl).trans ?_
    exact (congrArg (fun z => pm_go call ns d 62 n 127 [some (pm_r 20 0), some (pm_i v1), some (pm_i v2), u3] [pm_a z] (mm x R Z Y o A c G g)) (rs_20_5 hR))
  refine pW_eq 3 (pc' := 132) (L' := [some (pm_r 20 0), some (pm_i v1), some (pm_i v2), u3]) (S' := [pm_r 25 0, pm_i v1, pm_r 25 0]) (M' := (mm x R Z Y o A c G g)) (fun call n => ?_) ?_
  · refine Eq.trans (b := pm_g (mm x R Z Y o A c G g) 20 0 (pm_go call ns d 62 n 132 [some (pm_r 20 0), some (pm_i v1), some (pm_i v2), u3] [pm_a (R 20 0 5), pm_i v1, pm_r 25 0] (mm x R Z Y o A c G g))) rfl ?_
    refine (g_ok (f := 20) (by decide) rfl).trans ?_
    exact (congrArg (fun z => pm_go call ns d 62 n 132 [some (pm_r 20 0), some (pm_i v1), some (pm_i v2), u3] [pm_a z, pm_i v1, pm_r 25 0] (mm x R Z Y o A c G g)) (rs_20_5 hR))
  refine pW_eq 2 (pc' := 134) (L' := [some (pm_r 20 0), some (pm_i v1), some (pm_i v2), u3]) (S' := [pm_i (G 25 j1), pm_i v1, pm_r 25 0]) (M' := (mm x R Z Y o A c G g)) (fun call n => ?_) ?_
  · refine Eq.trans (b := pm_g (mm x R Z Y o A c G g) 25 0 (pm_ix (v1) 8 (fun jx => pm_go call ns d 62 n 134 [some (pm_r 20 0), some (pm_i v1), some (pm_i v2), u3] [pm_i (G 25 jx), pm_i v1, pm_r 25 0] (mm x R Z Y o A c G g)))) rfl ?_
    refine (g_ok (f := 25) (by decide) rfl).trans ?_
    refine (ix_ok (j := j1) e1 l1 (by decide)).trans ?_
    rfl
  refine pW_eq 5 (pc' := 139) (L' := [some (pm_r 20 0), some (pm_i v1), some (pm_i v2), u3]) (S' := []) (M' := (mm x R Z Y o A c (pm_v G 25 j1 ((G 25 j1) ||| ((nI 1) <<< (v2 &&& 31)))) g)) (fun call n => ?_) ?_
  · refine Eq.trans (b := pm_g (mm x R Z Y o A c G g) 25 0 (pm_ix (v1) 8 (fun jx => pm_go call ns d 62 n 139 [some (pm_r 20 0), some (pm_i v1), some (pm_i v2), u3] [] (pm_u (mA Z A G) 25 0 jx ((G 25 j1) ||| ((nI 1) <<< (v2 &&& 31))), mB Y o c g, R, pm_tot, x)))) rfl ?_
    refine (g_ok (f := 25) (by decide) rfl).trans ?_
    refine (ix_ok (j := j1) e1 l1 (by decide)).trans ?_
    exact (congrArg (fun z => pm_go call ns d 62 n 139 [some (pm_r 20 0), some (pm_i v1), some (pm_i v2), u3] [] (z, mB Y o c g, R, pm_tot, x)) (uG (by decide)))
  refine pW_call (pc' := 141) (r := []) (L' := [some (pm_r 20 0), some (pm_i v1), some (pm_i v2), u3]) 3 (fun call n => ?_) hE k
  exact Eq.trans (b := pm_g (mm x R Z Y o A c (pm_v G 25 j1 ((G 25 j1) ||| ((nI 1) <<< (v2 &&& 31)))) g) 20 0 (pm_cl call 62 (pm_go call ns d 62 n) 141 61 [pm_r 20 0, pm_i v1] [] [some (pm_r 20 0), some (pm_i v1), some (pm_i v2), u3] (mm x R Z Y o A c (pm_v G 25 j1 ((G 25 j1) ||| ((nI 1) <<< (v2 &&& 31)))) g))) rfl (g_ok (f := 20) (by decide) rfl)
set_option maxRecDepth 20000 in
theorem b62_117 (hR : RS R) {v1 : Int32} {v2 : Int32} {u3 : Option pm_V}   (k1 : nI 6 ≤ v2 → pW ns d 62 139 [some (pm_r 20 0), some (pm_i v1), some (pm_i v2), u3] [] (mm x R Z Y o A c G g) Q) (k2 : ¬ (nI 6 ≤ v2) → pW ns d 62 123 [some (pm_r 20 0), some (pm_i v1), some (pm_i v2), u3] [] (mm x R Z Y o A c G g) Q) : pW ns d 62 117 [some (pm_r 20 0), some (pm_i v1), some (pm_i v2), u3] [] (mm x R Z Y o A c G g) Q := by
  exact pW_if 3 (c := nI 6 ≤ v2) (fun call n => rfl) k1 k2
set_option maxRecDepth 20000 in
theorem t62_5 (hR : RS R) {v1 : Int32} {v2 : Int32} {u3 : Option pm_V} {vs0 : Int32}  (k1 : (vs0 = 0) → Q (.inl none, (mm x R Z Y o A c G g))) (k2 : (¬ (vs0 = 0)) → (v2 = nI 6) → pW ns d 62 15 [some (pm_r 20 0), some (pm_i v1), some (pm_i v2), u3] [] (mm x R Z Y o A c G g) Q) (k3 : (¬ (vs0 = 0)) → (¬ (v2 = nI 6)) → (v2 = nI 4) → pW ns d 62 62 [some (pm_r 20 0), some (pm_i v1), some (pm_i v2), u3] [] (mm x R Z Y o A c G g) Q) (k4 : (¬ (vs0 = 0)) → (¬ (v2 = nI 6)) → (¬ (v2 = nI 4)) → (v2 = nI 5) → pW ns d 62 62 [some (pm_r 20 0), some (pm_i v1), some (pm_i v2), u3] [] (mm x R Z Y o A c G g) Q) (k5 : (¬ (vs0 = 0)) → (¬ (v2 = nI 6)) → (¬ (v2 = nI 4)) → (¬ (v2 = nI 5)) → (v2 = nI 8) → (v1 ≤ 0) → Q (.inl none, (mm x R Z Y o A c G g))) (k6 : (¬ (vs0 = 0)) → (¬ (v2 = nI 6)) → (¬ (v2 = nI 4)) → (¬ (v2 = nI 5)) → (v2 = nI 8) → (¬ (v1 ≤ 0)) → pW ns d 62 87 [some (pm_r 20 0), some (pm_i v1), some (pm_i v2), u3] [] (mm x R Z Y o A c G g) Q) (k7 : (¬ (vs0 = 0)) → (¬ (v2 = nI 6)) → (¬ (v2 = nI 4)) → (¬ (v2 = nI 5)) → (¬ (v2 = nI 8)) → pW ns d 62 95 [some (pm_r 20 0), some (pm_i v1), some (pm_i v2), u3] [] (mm x R Z Y o A c G g) Q) : pW ns d 62 5 [some (pm_r 20 0), some (pm_i v1), some (pm_i v2), u3] [pm_i vs0] (mm x R Z Y o A c G g) Q := by
  refine b62_5 hR  (fun h1 => ?_) (fun h1 => ?_)
  · skip
    exact b62_8 hR   (k1 h1)
  · skip
    refine b62_9 hR   (fun h2 => ?_) (fun h2 => ?_)
    · skip
      exact (k2 h1 h2)
    · skip
      refine b62_52 hR   (fun h3 => ?_) (fun h3 => ?_)
      · skip
        exact (k3 h1 h2 h3)
      · skip
        refine b62_57 hR   (fun h4 => ?_) (fun h4 => ?_)
        · skip
          exact (k4 h1 h2 h3 h4)
        · skip
          refine b62_77 hR   (fun h5 => ?_) (fun h5 => ?_)
          · skip
            refine b62_83 hR   (fun h6 => ?_) (fun h6 => ?_)
            · skip
              exact b62_94 hR   (k5 h1 h2 h3 h4 h5 h6)
            · skip
              exact (k6 h1 h2 h3 h4 h5 h6)
          · skip
            exact (k7 h1 h2 h3 h4 h5)
set_option maxRecDepth 20000 in
theorem t62_9 (hR : RS R) {v1 : Int32} {v2 : Int32} {u3 : Option pm_V}  (k1 : (v2 = nI 6) → pW ns d 62 15 [some (pm_r 20 0), some (pm_i v1), some (pm_i v2), u3] [] (mm x R Z Y o A c G g) Q) (k2 : (¬ (v2 = nI 6)) → (v2 = nI 4) → pW ns d 62 62 [some (pm_r 20 0), some (pm_i v1), some (pm_i v2), u3] [] (mm x R Z Y o A c G g) Q) (k3 : (¬ (v2 = nI 6)) → (¬ (v2 = nI 4)) → (v2 = nI 5) → pW ns d 62 62 [some (pm_r 20 0), some (pm_i v1), some (pm_i v2), u3] [] (mm x R Z Y o A c G g) Q) (k4 : (¬ (v2 = nI 6)) → (¬ (v2 = nI 4)) → (¬ (v2 = nI 5)) → (v2 = nI 8) → (v1 ≤ 0) → Q (.inl none, (mm x R Z Y o A c G g))) (k5 : (¬ (v2 = nI 6)) → (¬ (v2 = nI 4)) → (¬ (v2 = nI 5)) → (v2 = nI 8) → (¬ (v1 ≤ 0)) → pW ns d 62 87 [some (pm_r 20 0), some (pm_i v1), some (pm_i v2), u3] [] (mm x R Z Y o A c G g) Q) (k6 : (¬ (v2 = nI 6)) → (¬ (v2 = nI 4)) → (¬ (v2 = nI 5)) → (¬ (v2 = nI 8)) → pW ns d 62 95 [some (pm_r 20 0), some (pm_i v1), some (pm_i v2), u3] [] (mm x R Z Y o A c G g) Q) : pW ns d 62 9 [some (pm_r 20 0), some (pm_i v1), some (pm_i v2), u3] [] (mm x R Z Y o A c G g) Q := by
  refine b62_9 hR  (fun h1 => ?_) (fun h1 => ?_)
  · skip
    exact (k1 h1)
  · skip
    refine b62_52 hR   (fun h2 => ?_) (fun h2 => ?_)
    · skip
      exact (k2 h1 h2)
    · skip
      refine b62_57 hR   (fun h3 => ?_) (fun h3 => ?_)
      · skip
        exact (k3 h1 h2 h3)
      · skip
        refine b62_77 hR   (fun h4 => ?_) (fun h4 => ?_)
        · skip
          refine b62_83 hR   (fun h5 => ?_) (fun h5 => ?_)
          · skip
            exact b62_94 hR   (k4 h1 h2 h3 h4 h5)
          · skip
            exact (k5 h1 h2 h3 h4 h5)
        · skip
          exact (k6 h1 h2 h3 h4)
set_option maxRecDepth 20000 in
theorem t62_15 (hR : RS R) {v1 : Int32} {v2 : Int32} {u3 : Option pm_V} {j1 : Nat} (e1 : v1 = nI j1) (l1 : j1 < 8) (k1 : ((pm_v G 25 j1 ((G 25 j1) &&& (-nI 49))) 21 j1 = nI 3) → (v2 = nI 4) → (v2 = nI 8) → (v1 ≤ 0) → Q (.inl none, (mm x R Z Y o A c (pm_v (pm_v (pm_v G 25 j1 ((G 25 j1) &&& (-nI 49))) 21 j1 ((pm_v G 25 j1 ((G 25 j1) &&& (-nI 49))) 30 j1)) 25 j1 (((pm_v (pm_v G 25 j1 ((G 25 j1) &&& (-nI 49))) 21 j1 ((pm_v G 25 j1 ((G 25 j1) &&& (-nI 49))) 30 j1)) 25 j1) &&& (-nI 65))) g))) (k2 : ((pm_v G 25 j1 ((G 25 j1) &&& (-nI 49))) 21 j1 = nI 3) → (v2 = nI 4) → (v2 = nI 8) → (¬ (v1 ≤ 0)) → pW ns d 62 87 [some (pm_r 20 0), some (pm_i v1), some (pm_i v2), u3] [] (mm x R Z Y o A c (pm_v (pm_v (pm_v G 25 j1 ((G 25 j1) &&& (-nI 49))) 21 j1 ((pm_v G 25 j1 ((G 25 j1) &&& (-nI 49))) 30 j1)) 25 j1 (((pm_v (pm_v G 25 j1 ((G 25 j1) &&& (-nI 49))) 21 j1 ((pm_v G 25 j1 ((G 25 j1) &&& (-nI 49))) 30 j1)) 25 j1) &&& (-nI 65))) g) Q) (k3 : ((pm_v G 25 j1 ((G 25 j1) &&& (-nI 49))) 21 j1 = nI 3) → (v2 = nI 4) → (¬ (v2 = nI 8)) → pW ns d 62 95 [some (pm_r 20 0), some (pm_i v1), some (pm_i v2), u3] [] (mm x R Z Y o A c (pm_v (pm_v (pm_v G 25 j1 ((G 25 j1) &&& (-nI 49))) 21 j1 ((pm_v G 25 j1 ((G 25 j1) &&& (-nI 49))) 30 j1)) 25 j1 (((pm_v (pm_v G 25 j1 ((G 25 j1) &&& (-nI 49))) 21 j1 ((pm_v G 25 j1 ((G 25 j1) &&& (-nI 49))) 30 j1)) 25 j1) &&& (-nI 65))) g) Q) (k4 : ((pm_v G 25 j1 ((G 25 j1) &&& (-nI 49))) 21 j1 = nI 3) → (¬ (v2 = nI 4)) → (v2 = nI 5) → (v2 = nI 8) → (v1 ≤ 0) → Q (.inl none, (mm x R Z Y o A c (pm_v (pm_v (pm_v G 25 j1 ((G 25 j1) &&& (-nI 49))) 21 j1 ((pm_v G 25 j1 ((G 25 j1) &&& (-nI 49))) 30 j1)) 25 j1 (((pm_v (pm_v G 25 j1 ((G 25 j1) &&& (-nI 49))) 21 j1 ((pm_v G 25 j1 ((G 25 j1) &&& (-nI 49))) 30 j1)) 25 j1) &&& (-nI 65))) g))) (k5 : ((pm_v G 25 j1 ((G 25 j1) &&& (-nI 49))) 21 j1 = nI 3) → (¬ (v2 = nI 4)) → (v2 = nI 5) → (v2 = nI 8) → (¬ (v1 ≤ 0)) → pW ns d 62 87 [some (pm_r 20 0), some (pm_i v1), some (pm_i v2), u3] [] (mm x R Z Y o A c (pm_v (pm_v (pm_v G 25 j1 ((G 25 j1) &&& (-nI 49))) 21 j1 ((pm_v G 25 j1 ((G 25 j1) &&& (-nI 49))) 30 j1)) 25 j1 (((pm_v (pm_v G 25 j1 ((G 25 j1) &&& (-nI 49))) 21 j1 ((pm_v G 25 j1 ((G 25 j1) &&& (-nI 49))) 30 j1)) 25 j1) &&& (-nI 65))) g) Q) (k6 : ((pm_v G 25 j1 ((G 25 j1) &&& (-nI 49))) 21 j1 = nI 3) → (¬ (v2 = nI 4)) → (v2 = nI 5) → (¬ (v2 = nI 8)) → pW ns d 62 95 [some (pm_r 20 0), some (pm_i v1), some (pm_i v2), u3] [] (mm x R Z Y o A c (pm_v (pm_v (pm_v G 25 j1 ((G 25 j1) &&& (-nI 49))) 21 j1 ((pm_v G 25 j1 ((G 25 j1) &&& (-nI 49))) 30 j1)) 25 j1 (((pm_v (pm_v G 25 j1 ((G 25 j1) &&& (-nI 49))) 21 j1 ((pm_v G 25 j1 ((G 25 j1) &&& (-nI 49))) 30 j1)) 25 j1) &&& (-nI 65))) g) Q) (k7 : ((pm_v G 25 j1 ((G 25 j1) &&& (-nI 49))) 21 j1 = nI 3) → (¬ (v2 = nI 4)) → (¬ (v2 = nI 5)) → (v2 = nI 8) → (v1 ≤ 0) → Q (.inl none, (mm x R Z Y o A c (pm_v (pm_v G 25 j1 ((G 25 j1) &&& (-nI 49))) 21 j1 ((pm_v G 25 j1 ((G 25 j1) &&& (-nI 49))) 30 j1)) g))) (k8 : ((pm_v G 25 j1 ((G 25 j1) &&& (-nI 49))) 21 j1 = nI 3) → (¬ (v2 = nI 4)) → (¬ (v2 = nI 5)) → (v2 = nI 8) → (¬ (v1 ≤ 0)) → pW ns d 62 87 [some (pm_r 20 0), some (pm_i v1), some (pm_i v2), u3] [] (mm x R Z Y o A c (pm_v (pm_v G 25 j1 ((G 25 j1) &&& (-nI 49))) 21 j1 ((pm_v G 25 j1 ((G 25 j1) &&& (-nI 49))) 30 j1)) g) Q) (k9 : ((pm_v G 25 j1 ((G 25 j1) &&& (-nI 49))) 21 j1 = nI 3) → (¬ (v2 = nI 4)) → (¬ (v2 = nI 5)) → (¬ (v2 = nI 8)) → pW ns d 62 95 [some (pm_r 20 0), some (pm_i v1), some (pm_i v2), u3] [] (mm x R Z Y o A c (pm_v (pm_v G 25 j1 ((G 25 j1) &&& (-nI 49))) 21 j1 ((pm_v G 25 j1 ((G 25 j1) &&& (-nI 49))) 30 j1)) g) Q) (k10 : (¬ ((pm_v G 25 j1 ((G 25 j1) &&& (-nI 49))) 21 j1 = nI 3)) → (v2 = nI 4) → (v2 = nI 8) → (v1 ≤ 0) → Q (.inl none, (mm x R Z Y o A c (pm_v (pm_v G 25 j1 ((G 25 j1) &&& (-nI 49))) 25 j1 (((pm_v G 25 j1 ((G 25 j1) &&& (-nI 49))) 25 j1) &&& (-nI 65))) g))) (k11 : (¬ ((pm_v G 25 j1 ((G 25 j1) &&& (-nI 49))) 21 j1 = nI 3)) → (v2 = nI 4) → (v2 = nI 8) → (¬ (v1 ≤ 0)) → pW ns d 62 87 [some (pm_r 20 0), some (pm_i v1), some (pm_i v2), u3] [] (mm x R Z Y o A c (pm_v (pm_v G 25 j1 ((G 25 j1) &&& (-nI 49))) 25 j1 (((pm_v G 25 j1 ((G 25 j1) &&& (-nI 49))) 25 j1) &&& (-nI 65))) g) Q) (k12 : (¬ ((pm_v G 25 j1 ((G 25 j1) &&& (-nI 49))) 21 j1 = nI 3)) → (v2 = nI 4) → (¬ (v2 = nI 8)) → pW ns d 62 95 [some (pm_r 20 0), some (pm_i v1), some (pm_i v2), u3] [] (mm x R Z Y o A c (pm_v (pm_v G 25 j1 ((G 25 j1) &&& (-nI 49))) 25 j1 (((pm_v G 25 j1 ((G 25 j1) &&& (-nI 49))) 25 j1) &&& (-nI 65))) g) Q) (k13 : (¬ ((pm_v G 25 j1 ((G 25 j1) &&& (-nI 49))) 21 j1 = nI 3)) → (¬ (v2 = nI 4)) → (v2 = nI 5) → (v2 = nI 8) → (v1 ≤ 0) → Q (.inl none, (mm x R Z Y o A c (pm_v (pm_v G 25 j1 ((G 25 j1) &&& (-nI 49))) 25 j1 (((pm_v G 25 j1 ((G 25 j1) &&& (-nI 49))) 25 j1) &&& (-nI 65))) g))) (k14 : (¬ ((pm_v G 25 j1 ((G 25 j1) &&& (-nI 49))) 21 j1 = nI 3)) → (¬ (v2 = nI 4)) → (v2 = nI 5) → (v2 = nI 8) → (¬ (v1 ≤ 0)) → pW ns d 62 87 [some (pm_r 20 0), some (pm_i v1), some (pm_i v2), u3] [] (mm x R Z Y o A c (pm_v (pm_v G 25 j1 ((G 25 j1) &&& (-nI 49))) 25 j1 (((pm_v G 25 j1 ((G 25 j1) &&& (-nI 49))) 25 j1) &&& (-nI 65))) g) Q) (k15 : (¬ ((pm_v G 25 j1 ((G 25 j1) &&& (-nI 49))) 21 j1 = nI 3)) → (¬ (v2 = nI 4)) → (v2 = nI 5) → (¬ (v2 = nI 8)) → pW ns d 62 95 [some (pm_r 20 0), some (pm_i v1), some (pm_i v2), u3] [] (mm x R Z Y o A c (pm_v (pm_v G 25 j1 ((G 25 j1) &&& (-nI 49))) 25 j1 (((pm_v G 25 j1 ((G 25 j1) &&& (-nI 49))) 25 j1) &&& (-nI 65))) g) Q) (k16 : (¬ ((pm_v G 25 j1 ((G 25 j1) &&& (-nI 49))) 21 j1 = nI 3)) → (¬ (v2 = nI 4)) → (¬ (v2 = nI 5)) → (v2 = nI 8) → (v1 ≤ 0) → Q (.inl none, (mm x R Z Y o A c (pm_v G 25 j1 ((G 25 j1) &&& (-nI 49))) g))) (k17 : (¬ ((pm_v G 25 j1 ((G 25 j1) &&& (-nI 49))) 21 j1 = nI 3)) → (¬ (v2 = nI 4)) → (¬ (v2 = nI 5)) → (v2 = nI 8) → (¬ (v1 ≤ 0)) → pW ns d 62 87 [some (pm_r 20 0), some (pm_i v1), some (pm_i v2), u3] [] (mm x R Z Y o A c (pm_v G 25 j1 ((G 25 j1) &&& (-nI 49))) g) Q) (k18 : (¬ ((pm_v G 25 j1 ((G 25 j1) &&& (-nI 49))) 21 j1 = nI 3)) → (¬ (v2 = nI 4)) → (¬ (v2 = nI 5)) → (¬ (v2 = nI 8)) → pW ns d 62 95 [some (pm_r 20 0), some (pm_i v1), some (pm_i v2), u3] [] (mm x R Z Y o A c (pm_v G 25 j1 ((G 25 j1) &&& (-nI 49))) g) Q) : pW ns d 62 15 [some (pm_r 20 0), some (pm_i v1), some (pm_i v2), u3] [] (mm x R Z Y o A c G g) Q := by
  refine b62_15 hR e1 l1 (fun h1 => ?_) (fun h1 => ?_)
  · skip
    refine b62_40 hR  e1 l1 (fun h2 => ?_) (fun h2 => ?_)
    · skip
      refine b62_62 hR  e1 l1 (fun h3 => ?_) (fun h3 => ?_)
      · skip
        refine b62_83 hR   (fun h4 => ?_) (fun h4 => ?_)
        · skip
          exact b62_94 hR   (k1 h1 h2 h3 h4)
        · skip
          exact (k2 h1 h2 h3 h4)
      · skip
        exact (k3 h1 h2 h3)
    · skip
      refine b62_57 hR   (fun h3 => ?_) (fun h3 => ?_)
      · skip
        refine b62_62 hR  e1 l1 (fun h4 => ?_) (fun h4 => ?_)
        · skip
          refine b62_83 hR   (fun h5 => ?_) (fun h5 => ?_)
          · skip
            exact b62_94 hR   (k4 h1 h2 h3 h4 h5)
          · skip
            exact (k5 h1 h2 h3 h4 h5)
        · skip
          exact (k6 h1 h2 h3 h4)
      · skip
        refine b62_77 hR   (fun h4 => ?_) (fun h4 => ?_)
        · skip
          refine b62_83 hR   (fun h5 => ?_) (fun h5 => ?_)
          · skip
            exact b62_94 hR   (k7 h1 h2 h3 h4 h5)
          · skip
            exact (k8 h1 h2 h3 h4 h5)
        · skip
          exact (k9 h1 h2 h3 h4)
  · skip
    refine b62_52 hR   (fun h2 => ?_) (fun h2 => ?_)
    · skip
      refine b62_62 hR  e1 l1 (fun h3 => ?_) (fun h3 => ?_)
      · skip
        refine b62_83 hR   (fun h4 => ?_) (fun h4 => ?_)
        · skip
          exact b62_94 hR   (k10 h1 h2 h3 h4)
        · skip
          exact (k11 h1 h2 h3 h4)
      · skip
        exact (k12 h1 h2 h3)
    · skip
      refine b62_57 hR   (fun h3 => ?_) (fun h3 => ?_)
      · skip
        refine b62_62 hR  e1 l1 (fun h4 => ?_) (fun h4 => ?_)
        · skip
          refine b62_83 hR   (fun h5 => ?_) (fun h5 => ?_)
          · skip
            exact b62_94 hR   (k13 h1 h2 h3 h4 h5)
          · skip
            exact (k14 h1 h2 h3 h4 h5)
        · skip
          exact (k15 h1 h2 h3 h4)
      · skip
        refine b62_77 hR   (fun h4 => ?_) (fun h4 => ?_)
        · skip
          refine b62_83 hR   (fun h5 => ?_) (fun h5 => ?_)
          · skip
            exact b62_94 hR   (k16 h1 h2 h3 h4 h5)
          · skip
            exact (k17 h1 h2 h3 h4 h5)
        · skip
          exact (k18 h1 h2 h3 h4)
set_option maxRecDepth 20000 in
theorem t62_52 (hR : RS R) {v1 : Int32} {v2 : Int32} {u3 : Option pm_V}  (k1 : (v2 = nI 4) → pW ns d 62 62 [some (pm_r 20 0), some (pm_i v1), some (pm_i v2), u3] [] (mm x R Z Y o A c G g) Q) (k2 : (¬ (v2 = nI 4)) → (v2 = nI 5) → pW ns d 62 62 [some (pm_r 20 0), some (pm_i v1), some (pm_i v2), u3] [] (mm x R Z Y o A c G g) Q) (k3 : (¬ (v2 = nI 4)) → (¬ (v2 = nI 5)) → (v2 = nI 8) → (v1 ≤ 0) → Q (.inl none, (mm x R Z Y o A c G g))) (k4 : (¬ (v2 = nI 4)) → (¬ (v2 = nI 5)) → (v2 = nI 8) → (¬ (v1 ≤ 0)) → pW ns d 62 87 [some (pm_r 20 0), some (pm_i v1), some (pm_i v2), u3] [] (mm x R Z Y o A c G g) Q) (k5 : (¬ (v2 = nI 4)) → (¬ (v2 = nI 5)) → (¬ (v2 = nI 8)) → pW ns d 62 95 [some (pm_r 20 0), some (pm_i v1), some (pm_i v2), u3] [] (mm x R Z Y o A c G g) Q) : pW ns d 62 52 [some (pm_r 20 0), some (pm_i v1), some (pm_i v2), u3] [] (mm x R Z Y o A c G g) Q := by
  refine b62_52 hR  (fun h1 => ?_) (fun h1 => ?_)
  · skip
    exact (k1 h1)
  · skip
    refine b62_57 hR   (fun h2 => ?_) (fun h2 => ?_)
    · skip
      exact (k2 h1 h2)
    · skip
      refine b62_77 hR   (fun h3 => ?_) (fun h3 => ?_)
      · skip
        refine b62_83 hR   (fun h4 => ?_) (fun h4 => ?_)
        · skip
          exact b62_94 hR   (k3 h1 h2 h3 h4)
        · skip
          exact (k4 h1 h2 h3 h4)
      · skip
        exact (k5 h1 h2 h3)
set_option maxRecDepth 20000 in
theorem t62_40 (hR : RS R) {v1 : Int32} {v2 : Int32} {u3 : Option pm_V} {j1 : Nat} (e1 : v1 = nI j1) (l1 : j1 < 8) (k1 : (v2 = nI 4) → (v2 = nI 8) → (v1 ≤ 0) → Q (.inl none, (mm x R Z Y o A c (pm_v (pm_v G 21 j1 (G 30 j1)) 25 j1 (((pm_v G 21 j1 (G 30 j1)) 25 j1) &&& (-nI 65))) g))) (k2 : (v2 = nI 4) → (v2 = nI 8) → (¬ (v1 ≤ 0)) → pW ns d 62 87 [some (pm_r 20 0), some (pm_i v1), some (pm_i v2), u3] [] (mm x R Z Y o A c (pm_v (pm_v G 21 j1 (G 30 j1)) 25 j1 (((pm_v G 21 j1 (G 30 j1)) 25 j1) &&& (-nI 65))) g) Q) (k3 : (v2 = nI 4) → (¬ (v2 = nI 8)) → pW ns d 62 95 [some (pm_r 20 0), some (pm_i v1), some (pm_i v2), u3] [] (mm x R Z Y o A c (pm_v (pm_v G 21 j1 (G 30 j1)) 25 j1 (((pm_v G 21 j1 (G 30 j1)) 25 j1) &&& (-nI 65))) g) Q) (k4 : (¬ (v2 = nI 4)) → (v2 = nI 5) → (v2 = nI 8) → (v1 ≤ 0) → Q (.inl none, (mm x R Z Y o A c (pm_v (pm_v G 21 j1 (G 30 j1)) 25 j1 (((pm_v G 21 j1 (G 30 j1)) 25 j1) &&& (-nI 65))) g))) (k5 : (¬ (v2 = nI 4)) → (v2 = nI 5) → (v2 = nI 8) → (¬ (v1 ≤ 0)) → pW ns d 62 87 [some (pm_r 20 0), some (pm_i v1), some (pm_i v2), u3] [] (mm x R Z Y o A c (pm_v (pm_v G 21 j1 (G 30 j1)) 25 j1 (((pm_v G 21 j1 (G 30 j1)) 25 j1) &&& (-nI 65))) g) Q) (k6 : (¬ (v2 = nI 4)) → (v2 = nI 5) → (¬ (v2 = nI 8)) → pW ns d 62 95 [some (pm_r 20 0), some (pm_i v1), some (pm_i v2), u3] [] (mm x R Z Y o A c (pm_v (pm_v G 21 j1 (G 30 j1)) 25 j1 (((pm_v G 21 j1 (G 30 j1)) 25 j1) &&& (-nI 65))) g) Q) (k7 : (¬ (v2 = nI 4)) → (¬ (v2 = nI 5)) → (v2 = nI 8) → (v1 ≤ 0) → Q (.inl none, (mm x R Z Y o A c (pm_v G 21 j1 (G 30 j1)) g))) (k8 : (¬ (v2 = nI 4)) → (¬ (v2 = nI 5)) → (v2 = nI 8) → (¬ (v1 ≤ 0)) → pW ns d 62 87 [some (pm_r 20 0), some (pm_i v1), some (pm_i v2), u3] [] (mm x R Z Y o A c (pm_v G 21 j1 (G 30 j1)) g) Q) (k9 : (¬ (v2 = nI 4)) → (¬ (v2 = nI 5)) → (¬ (v2 = nI 8)) → pW ns d 62 95 [some (pm_r 20 0), some (pm_i v1), some (pm_i v2), u3] [] (mm x R Z Y o A c (pm_v G 21 j1 (G 30 j1)) g) Q) : pW ns d 62 40 [some (pm_r 20 0), some (pm_i v1), some (pm_i v2), u3] [] (mm x R Z Y o A c G g) Q := by
  refine b62_40 hR e1 l1 (fun h1 => ?_) (fun h1 => ?_)
  · skip
    refine b62_62 hR  e1 l1 (fun h2 => ?_) (fun h2 => ?_)
    · skip
      refine b62_83 hR   (fun h3 => ?_) (fun h3 => ?_)
      · skip
        exact b62_94 hR   (k1 h1 h2 h3)
      · skip
        exact (k2 h1 h2 h3)
    · skip
      exact (k3 h1 h2)
  · skip
    refine b62_57 hR   (fun h2 => ?_) (fun h2 => ?_)
    · skip
      refine b62_62 hR  e1 l1 (fun h3 => ?_) (fun h3 => ?_)
      · skip
        refine b62_83 hR   (fun h4 => ?_) (fun h4 => ?_)
        · skip
          exact b62_94 hR   (k4 h1 h2 h3 h4)
        · skip
          exact (k5 h1 h2 h3 h4)
      · skip
        exact (k6 h1 h2 h3)
    · skip
      refine b62_77 hR   (fun h3 => ?_) (fun h3 => ?_)
      · skip
        refine b62_83 hR   (fun h4 => ?_) (fun h4 => ?_)
        · skip
          exact b62_94 hR   (k7 h1 h2 h3 h4)
        · skip
          exact (k8 h1 h2 h3 h4)
      · skip
        exact (k9 h1 h2 h3)
set_option maxRecDepth 20000 in
theorem t62_62 (hR : RS R) {v1 : Int32} {v2 : Int32} {u3 : Option pm_V} {j1 : Nat} (e1 : v1 = nI j1) (l1 : j1 < 8) (k1 : (v2 = nI 8) → (v1 ≤ 0) → Q (.inl none, (mm x R Z Y o A c (pm_v G 25 j1 ((G 25 j1) &&& (-nI 65))) g))) (k2 : (v2 = nI 8) → (¬ (v1 ≤ 0)) → pW ns d 62 87 [some (pm_r 20 0), some (pm_i v1), some (pm_i v2), u3] [] (mm x R Z Y o A c (pm_v G 25 j1 ((G 25 j1) &&& (-nI 65))) g) Q) (k3 : (¬ (v2 = nI 8)) → pW ns d 62 95 [some (pm_r 20 0), some (pm_i v1), some (pm_i v2), u3] [] (mm x R Z Y o A c (pm_v G 25 j1 ((G 25 j1) &&& (-nI 65))) g) Q) : pW ns d 62 62 [some (pm_r 20 0), some (pm_i v1), some (pm_i v2), u3] [] (mm x R Z Y o A c G g) Q := by
  refine b62_62 hR e1 l1 (fun h1 => ?_) (fun h1 => ?_)
  · skip
    refine b62_83 hR   (fun h2 => ?_) (fun h2 => ?_)
    · skip
      exact b62_94 hR   (k1 h1 h2)
    · skip
      exact (k2 h1 h2)
  · skip
    exact (k3 h1)
set_option maxRecDepth 20000 in
theorem t62_57 (hR : RS R) {v1 : Int32} {v2 : Int32} {u3 : Option pm_V}  (k1 : (v2 = nI 5) → pW ns d 62 62 [some (pm_r 20 0), some (pm_i v1), some (pm_i v2), u3] [] (mm x R Z Y o A c G g) Q) (k2 : (¬ (v2 = nI 5)) → (v2 = nI 8) → (v1 ≤ 0) → Q (.inl none, (mm x R Z Y o A c G g))) (k3 : (¬ (v2 = nI 5)) → (v2 = nI 8) → (¬ (v1 ≤ 0)) → pW ns d 62 87 [some (pm_r 20 0), some (pm_i v1), some (pm_i v2), u3] [] (mm x R Z Y o A c G g) Q) (k4 : (¬ (v2 = nI 5)) → (¬ (v2 = nI 8)) → pW ns d 62 95 [some (pm_r 20 0), some (pm_i v1), some (pm_i v2), u3] [] (mm x R Z Y o A c G g) Q) : pW ns d 62 57 [some (pm_r 20 0), some (pm_i v1), some (pm_i v2), u3] [] (mm x R Z Y o A c G g) Q := by
  refine b62_57 hR  (fun h1 => ?_) (fun h1 => ?_)
  · skip
    exact (k1 h1)
  · skip
    refine b62_77 hR   (fun h2 => ?_) (fun h2 => ?_)
    · skip
      refine b62_83 hR   (fun h3 => ?_) (fun h3 => ?_)
      · skip
        exact b62_94 hR   (k2 h1 h2 h3)
      · skip
        exact (k3 h1 h2 h3)
    · skip
      exact (k4 h1 h2)
set_option maxRecDepth 20000 in
theorem t62_83 (hR : RS R) {v1 : Int32} {u2 : Option pm_V} {u3 : Option pm_V}  (k1 : (v1 ≤ 0) → Q (.inl none, (mm x R Z Y o A c G g))) (k2 : (¬ (v1 ≤ 0)) → pW ns d 62 87 [some (pm_r 20 0), some (pm_i v1), u2, u3] [] (mm x R Z Y o A c G g) Q) : pW ns d 62 83 [some (pm_r 20 0), some (pm_i v1), u2, u3] [] (mm x R Z Y o A c G g) Q := by
  refine b62_83 hR  (fun h1 => ?_) (fun h1 => ?_)
  · skip
    exact b62_94 hR   (k1 h1)
  · skip
    exact (k2 h1)
set_option maxRecDepth 20000 in
theorem t62_95 (hR : RS R) {v1 : Int32} {v2 : Int32} {u3 : Option pm_V} {j1 : Nat} (e1 : ((nI 8) * v1) + v2 = nI j1) (l1 : j1 < 64) (k1 : (G 33 j1 = nI 1) → pW ns d 62 139 [some (pm_r 20 0), some (pm_i v1), some (pm_i v2), some (pm_i (G 33 j1))] [] (mm x R Z Y o A c G g) Q) (k2 : (¬ (G 33 j1 = nI 1)) → (G 33 j1 = nI 2) → pW ns d 62 123 [some (pm_r 20 0), some (pm_i v1), some (pm_i v2), some (pm_i (G 33 j1))] [] (mm x R Z Y o A c G g) Q) (k3 : (¬ (G 33 j1 = nI 1)) → (¬ (G 33 j1 = nI 2)) → (nI 6 ≤ v2) → pW ns d 62 139 [some (pm_r 20 0), some (pm_i v1), some (pm_i v2), some (pm_i (G 33 j1))] [] (mm x R Z Y o A c G g) Q) (k4 : (¬ (G 33 j1 = nI 1)) → (¬ (G 33 j1 = nI 2)) → (¬ (nI 6 ≤ v2)) → pW ns d 62 123 [some (pm_r 20 0), some (pm_i v1), some (pm_i v2), some (pm_i (G 33 j1))] [] (mm x R Z Y o A c G g) Q) : pW ns d 62 95 [some (pm_r 20 0), some (pm_i v1), some (pm_i v2), u3] [] (mm x R Z Y o A c G g) Q := by
  refine b62_95 hR e1 l1 (fun h1 => ?_) (fun h1 => ?_)
  · skip
    exact (k1 h1)
  · skip
    refine b62_112 hR   (fun h2 => ?_) (fun h2 => ?_)
    · skip
      exact (k2 h1 h2)
    · skip
      refine b62_117 hR   (fun h3 => ?_) (fun h3 => ?_)
      · skip
        exact (k3 h1 h2 h3)
      · skip
        exact (k4 h1 h2 h3)
set_option maxRecDepth 20000 in
theorem t62_77 (hR : RS R) {v1 : Int32} {v2 : Int32} {u3 : Option pm_V}  (k1 : (v2 = nI 8) → (v1 ≤ 0) → Q (.inl none, (mm x R Z Y o A c G g))) (k2 : (v2 = nI 8) → (¬ (v1 ≤ 0)) → pW ns d 62 87 [some (pm_r 20 0), some (pm_i v1), some (pm_i v2), u3] [] (mm x R Z Y o A c G g) Q) (k3 : (¬ (v2 = nI 8)) → pW ns d 62 95 [some (pm_r 20 0), some (pm_i v1), some (pm_i v2), u3] [] (mm x R Z Y o A c G g) Q) : pW ns d 62 77 [some (pm_r 20 0), some (pm_i v1), some (pm_i v2), u3] [] (mm x R Z Y o A c G g) Q := by
  refine b62_77 hR  (fun h1 => ?_) (fun h1 => ?_)
  · skip
    refine b62_83 hR   (fun h2 => ?_) (fun h2 => ?_)
    · skip
      exact b62_94 hR   (k1 h1 h2)
    · skip
      exact (k2 h1 h2)
  · skip
    exact (k3 h1)
set_option maxRecDepth 20000 in
theorem t62_112 (hR : RS R) {v1 : Int32} {v2 : Int32} {v3 : Int32}  (k1 : (v3 = nI 2) → pW ns d 62 123 [some (pm_r 20 0), some (pm_i v1), some (pm_i v2), some (pm_i v3)] [] (mm x R Z Y o A c G g) Q) (k2 : (¬ (v3 = nI 2)) → (nI 6 ≤ v2) → pW ns d 62 139 [some (pm_r 20 0), some (pm_i v1), some (pm_i v2), some (pm_i v3)] [] (mm x R Z Y o A c G g) Q) (k3 : (¬ (v3 = nI 2)) → (¬ (nI 6 ≤ v2)) → pW ns d 62 123 [some (pm_r 20 0), some (pm_i v1), some (pm_i v2), some (pm_i v3)] [] (mm x R Z Y o A c G g) Q) : pW ns d 62 112 [some (pm_r 20 0), some (pm_i v1), some (pm_i v2), some (pm_i v3)] [] (mm x R Z Y o A c G g) Q := by
  refine b62_112 hR  (fun h1 => ?_) (fun h1 => ?_)
  · skip
    exact (k1 h1)
  · skip
    refine b62_117 hR   (fun h2 => ?_) (fun h2 => ?_)
    · skip
      exact (k2 h1 h2)
    · skip
      exact (k3 h1 h2)
set_option maxRecDepth 20000 in
theorem t62_117 (hR : RS R) {v1 : Int32} {v2 : Int32} {u3 : Option pm_V}  (k1 : (nI 6 ≤ v2) → pW ns d 62 139 [some (pm_r 20 0), some (pm_i v1), some (pm_i v2), u3] [] (mm x R Z Y o A c G g) Q) (k2 : (¬ (nI 6 ≤ v2)) → pW ns d 62 123 [some (pm_r 20 0), some (pm_i v1), some (pm_i v2), u3] [] (mm x R Z Y o A c G g) Q) : pW ns d 62 117 [some (pm_r 20 0), some (pm_i v1), some (pm_i v2), u3] [] (mm x R Z Y o A c G g) Q := by
  refine b62_117 hR  (fun h1 => ?_) (fun h1 => ?_)
  · skip
    exact (k1 h1)
  · skip
    exact (k2 h1)
end BLK
