/-! @70.wp@ blocks, printed by program (wip/whole/gen/blk.py) -/
section BLK
variable {ns d x : Nat} {R : Nat → Nat → Nat → Option (Nat × Nat)} {Z A : Nat → Nat → Nat → Int32} {Y : Nat → Nat → Nat → Int64} {o : Int64} {c g : Nat → Int64} {G : Nat → Nat → Int32} {Q : pm_O × pm_M → Prop}
/-! 87 JobLayerModel.mayMove -/
set_option maxRecDepth 20000 in
theorem b87_0 (hR : RS R) {v1 : Int32} {v2 : Int32}  {x2 : Nat} {o2 : Int64} {A2 : Nat → Nat → Nat → Int32} {c2 : Nat → Int64} {G2 : Nat → Nat → Int32} {g2 : Nat → Int64} {y : Int32} (hE : pE ns d 81 [pm_r 20 0, pm_i v1, pm_i (nI 2)] (mm x R Z Y o A c G g) (.inl (some (pm_i y)), (mm x2 R Z Y o2 A2 c2 G2 g2))) (k : pW ns d 87 6 [some (pm_r 20 0), some (pm_i v1), some (pm_i v2)] [pm_i y] (mm x2 R Z Y o2 A2 c2 G2 g2) Q) : pW ns d 87 0 [some (pm_r 20 0), some (pm_i v1), some (pm_i v2)] [] (mm x R Z Y o A c G g) Q := by
  refine pW_call (pc' := 3) (r := []) (L' := [some (pm_r 20 0), some (pm_i v1), some (pm_i v2)]) 4 (fun call n => ?_) hE k
  exact Eq.trans (b := pm_g (mm x R Z Y o A c G g) 20 0 (pm_cl call 87 (pm_go call ns d 87 n) 3 81 [pm_r 20 0, pm_i v1, pm_i (nI 2)] [] [some (pm_r 20 0), some (pm_i v1), some (pm_i v2)] (mm x R Z Y o A c G g))) rfl (g_ok (f := 20) (by decide) rfl)
set_option maxRecDepth 20000 in
theorem b87_6 (hR : RS R) {u1 : Option pm_V} {v2 : Int32} {vs0 : Int32}   (k1 : vs0 = 0 → pW ns d 87 9 [some (pm_r 20 0), u1, some (pm_i v2)] [] (mm x R Z Y o A c G g) Q) (k2 : ¬ (vs0 = 0) → pW ns d 87 11 [some (pm_r 20 0), u1, some (pm_i v2)] [] (mm x R Z Y o A c G g) Q) : pW ns d 87 6 [some (pm_r 20 0), u1, some (pm_i v2)] [pm_i vs0] (mm x R Z Y o A c G g) Q := by
  exact pW_if 1 (c := vs0 = 0) (fun call n => rfl) k1 k2
set_option maxRecDepth 20000 in
theorem b87_9 (hR : RS R) {u0 : Option pm_V} {u1 : Option pm_V} {u2 : Option pm_V}   (k : Q (.inl (some (pm_i (nI 0))), (mm x R Z Y o A c G g))) : pW ns d 87 9 [u0, u1, u2] [] (mm x R Z Y o A c G g) Q := by
  refine pW_ret 2 (fun call n => ?_) k
  exact Eq.trans (b := pm_bo (nI 0) (some (.inl (some (pm_i (nI 0))), (mm x R Z Y o A c G g)))) rfl (bo_ok (by decide))
set_option maxRecDepth 20000 in
theorem b87_11 (hR : RS R) {u1 : Option pm_V} {v2 : Int32}   (k1 : v2 < nI 1 → pW ns d 87 23 [some (pm_r 20 0), u1, some (pm_i v2)] [pm_r 20 0] (mm x R Z Y o A c G g) Q) (k2 : ¬ (v2 < nI 1) → pW ns d 87 17 [some (pm_r 20 0), u1, some (pm_i v2)] [pm_r 20 0] (mm x R Z Y o A c G g) Q) : pW ns d 87 11 [some (pm_r 20 0), u1, some (pm_i v2)] [] (mm x R Z Y o A c G g) Q := by
  exact pW_if 4 (c := v2 < nI 1) (fun call n => rfl) k1 k2
set_option maxRecDepth 20000 in
theorem b87_23 (hR : RS R) {u1 : Option pm_V} {u2 : Option pm_V}   (k1 : (pm_v G 20 0 (nI 1)) 20 0 = 0 → pW ns d 87 38 [some (pm_r 20 0), u1, u2] [] (mm x R Z Y o A c (pm_v G 20 0 (nI 1)) g) Q) (k2 : ¬ ((pm_v G 20 0 (nI 1)) 20 0 = 0) → pW ns d 87 42 [some (pm_r 20 0), u1, u2] [] (mm x R Z Y o A c (pm_v G 20 0 (nI 1)) g) Q) : pW ns d 87 23 [some (pm_r 20 0), u1, u2] [pm_r 20 0] (mm x R Z Y o A c G g) Q := by
  refine pW_eq 3 (pc' := 31) (L' := [some (pm_r 20 0), u1, u2]) (S' := []) (M' := (mm x R Z Y o A c (pm_v G 20 0 (nI 1)) g)) (fun call n => ?_) ?_
  · refine Eq.trans (b := pm_g (mm x R Z Y o A c G g) 20 0 (pm_go call ns d 87 n 31 [some (pm_r 20 0), u1, u2] [] (pm_u (mA Z A G) 20 0 0 (nI 1), mB Y o c g, R, pm_tot, x))) rfl ?_
    refine (g_ok (f := 20) (by decide) rfl).trans ?_
    exact (congrArg (fun z => pm_go call ns d 87 n 31 [some (pm_r 20 0), u1, u2] [] (z, mB Y o c g, R, pm_tot, x)) (uG (by decide)))
  refine pW_eq 2 (pc' := 35) (L' := [some (pm_r 20 0), u1, u2]) (S' := [pm_i ((pm_v G 20 0 (nI 1)) 20 0)]) (M' := (mm x R Z Y o A c (pm_v G 20 0 (nI 1)) g)) (fun call n => ?_) ?_
  · refine Eq.trans (b := pm_g (mm x R Z Y o A c (pm_v G 20 0 (nI 1)) g) 20 0 (pm_go call ns d 87 n 35 [some (pm_r 20 0), u1, u2] [pm_i ((pm_v G 20 0 (nI 1)) 20 0)] (mm x R Z Y o A c (pm_v G 20 0 (nI 1)) g))) rfl ?_
    refine (g_ok (f := 20) (by decide) rfl).trans ?_
    rfl
  exact pW_if 1 (c := (pm_v G 20 0 (nI 1)) 20 0 = 0) (fun call n => rfl) k1 k2
set_option maxRecDepth 20000 in
theorem b87_17 (hR : RS R) {u1 : Option pm_V} {v2 : Int32}   (k1 : v2 ≤ nI 8 → pW ns d 87 27 [some (pm_r 20 0), u1, some (pm_i v2)] [pm_r 20 0] (mm x R Z Y o A c G g) Q) (k2 : ¬ (v2 ≤ nI 8) → pW ns d 87 23 [some (pm_r 20 0), u1, some (pm_i v2)] [pm_r 20 0] (mm x R Z Y o A c G g) Q) : pW ns d 87 17 [some (pm_r 20 0), u1, some (pm_i v2)] [pm_r 20 0] (mm x R Z Y o A c G g) Q := by
  exact pW_if 3 (c := v2 ≤ nI 8) (fun call n => rfl) k1 k2
set_option maxRecDepth 20000 in
theorem b87_38 (hR : RS R) {u0 : Option pm_V} {u1 : Option pm_V} {u2 : Option pm_V}   (k : Q (.inl (some (pm_i (nI 1))), (mm x R Z Y o A c G g))) : pW ns d 87 38 [u0, u1, u2] [] (mm x R Z Y o A c G g) Q := by
  refine pW_ret 3 (fun call n => ?_) k
  exact Eq.trans (b := pm_bo (nI 1) (some (.inl (some (pm_i (nI 1))), (mm x R Z Y o A c G g)))) rfl (bo_ok (by decide))
set_option maxRecDepth 20000 in
theorem b87_42 (hR : RS R) {u0 : Option pm_V} {u1 : Option pm_V} {u2 : Option pm_V}   (k : Q (.inl (some (pm_i (nI 0))), (mm x R Z Y o A c G g))) : pW ns d 87 42 [u0, u1, u2] [] (mm x R Z Y o A c G g) Q := by
  refine pW_ret 2 (fun call n => ?_) k
  exact Eq.trans (b := pm_bo (nI 0) (some (.inl (some (pm_i (nI 0))), (mm x R Z Y o A c G g)))) rfl (bo_ok (by decide))
set_option maxRecDepth 20000 in
theorem b87_27 (hR : RS R) {u1 : Option pm_V} {u2 : Option pm_V}   (k1 : (pm_v G 20 0 (nI 0)) 20 0 = 0 → pW ns d 87 38 [some (pm_r 20 0), u1, u2] [] (mm x R Z Y o A c (pm_v G 20 0 (nI 0)) g) Q) (k2 : ¬ ((pm_v G 20 0 (nI 0)) 20 0 = 0) → pW ns d 87 42 [some (pm_r 20 0), u1, u2] [] (mm x R Z Y o A c (pm_v G 20 0 (nI 0)) g) Q) : pW ns d 87 27 [some (pm_r 20 0), u1, u2] [pm_r 20 0] (mm x R Z Y o A c G g) Q := by
  refine pW_eq 2 (pc' := 31) (L' := [some (pm_r 20 0), u1, u2]) (S' := []) (M' := (mm x R Z Y o A c (pm_v G 20 0 (nI 0)) g)) (fun call n => ?_) ?_
  · refine Eq.trans (b := pm_g (mm x R Z Y o A c G g) 20 0 (pm_go call ns d 87 n 31 [some (pm_r 20 0), u1, u2] [] (pm_u (mA Z A G) 20 0 0 (nI 0), mB Y o c g, R, pm_tot, x))) rfl ?_
    refine (g_ok (f := 20) (by decide) rfl).trans ?_
    exact (congrArg (fun z => pm_go call ns d 87 n 31 [some (pm_r 20 0), u1, u2] [] (z, mB Y o c g, R, pm_tot, x)) (uG (by decide)))
  refine pW_eq 2 (pc' := 35) (L' := [some (pm_r 20 0), u1, u2]) (S' := [pm_i ((pm_v G 20 0 (nI 0)) 20 0)]) (M' := (mm x R Z Y o A c (pm_v G 20 0 (nI 0)) g)) (fun call n => ?_) ?_
  · refine Eq.trans (b := pm_g (mm x R Z Y o A c (pm_v G 20 0 (nI 0)) g) 20 0 (pm_go call ns d 87 n 35 [some (pm_r 20 0), u1, u2] [pm_i ((pm_v G 20 0 (nI 0)) 20 0)] (mm x R Z Y o A c (pm_v G 20 0 (nI 0)) g))) rfl ?_
    refine (g_ok (f := 20) (by decide) rfl).trans ?_
    rfl
  exact pW_if 1 (c := (pm_v G 20 0 (nI 0)) 20 0 = 0) (fun call n => rfl) k1 k2
set_option maxRecDepth 20000 in
theorem t87_6 (hR : RS R) {u1 : Option pm_V} {v2 : Int32} {vs0 : Int32}  (k1 : (vs0 = 0) → Q (.inl (some (pm_i (nI 0))), (mm x R Z Y o A c G g))) (k2 : (¬ (vs0 = 0)) → (v2 < nI 1) → ((pm_v G 20 0 (nI 1)) 20 0 = 0) → Q (.inl (some (pm_i (nI 1))), (mm x R Z Y o A c (pm_v G 20 0 (nI 1)) g))) (k3 : (¬ (vs0 = 0)) → (v2 < nI 1) → (¬ ((pm_v G 20 0 (nI 1)) 20 0 = 0)) → Q (.inl (some (pm_i (nI 0))), (mm x R Z Y o A c (pm_v G 20 0 (nI 1)) g))) (k4 : (¬ (vs0 = 0)) → (¬ (v2 < nI 1)) → (v2 ≤ nI 8) → ((pm_v G 20 0 (nI 0)) 20 0 = 0) → Q (.inl (some (pm_i (nI 1))), (mm x R Z Y o A c (pm_v G 20 0 (nI 0)) g))) (k5 : (¬ (vs0 = 0)) → (¬ (v2 < nI 1)) → (v2 ≤ nI 8) → (¬ ((pm_v G 20 0 (nI 0)) 20 0 = 0)) → Q (.inl (some (pm_i (nI 0))), (mm x R Z Y o A c (pm_v G 20 0 (nI 0)) g))) (k6 : (¬ (vs0 = 0)) → (¬ (v2 < nI 1)) → (¬ (v2 ≤ nI 8)) → ((pm_v G 20 0 (nI 1)) 20 0 = 0) → Q (.inl (some (pm_i (nI 1))), (mm x R Z Y o A c (pm_v G 20 0 (nI 1)) g))) (k7 : (¬ (vs0 = 0)) → (¬ (v2 < nI 1)) → (¬ (v2 ≤ nI 8)) → (¬ ((pm_v G 20 0 (nI 1)) 20 0 = 0)) → Q (.inl (some (pm_i (nI 0))), (mm x R Z Y o A c (pm_v G 20 0 (nI 1)) g))) : pW ns d 87 6 [some (pm_r 20 0), u1, some (pm_i v2)] [pm_i vs0] (mm x R Z Y o A c G g) Q := by
  refine b87_6 hR  (fun h1 => ?_) (fun h1 => ?_)
  · skip
    exact b87_9 hR   (k1 h1)
  · skip
    refine b87_11 hR   (fun h2 => ?_) (fun h2 => ?_)
    · skip
      refine b87_23 hR   (fun h3 => ?_) (fun h3 => ?_)
      · skip
        exact b87_38 hR   (k2 h1 h2 h3)
      · skip
        exact b87_42 hR   (k3 h1 h2 h3)
    · skip
      refine b87_17 hR   (fun h3 => ?_) (fun h3 => ?_)
      · skip
        refine b87_27 hR   (fun h4 => ?_) (fun h4 => ?_)
        · skip
          exact b87_38 hR   (k4 h1 h2 h3 h4)
        · skip
          exact b87_42 hR   (k5 h1 h2 h3 h4)
      · skip
        refine b87_23 hR   (fun h4 => ?_) (fun h4 => ?_)
        · skip
          exact b87_38 hR   (k6 h1 h2 h3 h4)
        · skip
          exact b87_42 hR   (k7 h1 h2 h3 h4)
set_option maxRecDepth 20000 in
theorem t87_11 (hR : RS R) {u1 : Option pm_V} {v2 : Int32}  (k1 : (v2 < nI 1) → ((pm_v G 20 0 (nI 1)) 20 0 = 0) → Q (.inl (some (pm_i (nI 1))), (mm x R Z Y o A c (pm_v G 20 0 (nI 1)) g))) (k2 : (v2 < nI 1) → (¬ ((pm_v G 20 0 (nI 1)) 20 0 = 0)) → Q (.inl (some (pm_i (nI 0))), (mm x R Z Y o A c (pm_v G 20 0 (nI 1)) g))) (k3 : (¬ (v2 < nI 1)) → (v2 ≤ nI 8) → ((pm_v G 20 0 (nI 0)) 20 0 = 0) → Q (.inl (some (pm_i (nI 1))), (mm x R Z Y o A c (pm_v G 20 0 (nI 0)) g))) (k4 : (¬ (v2 < nI 1)) → (v2 ≤ nI 8) → (¬ ((pm_v G 20 0 (nI 0)) 20 0 = 0)) → Q (.inl (some (pm_i (nI 0))), (mm x R Z Y o A c (pm_v G 20 0 (nI 0)) g))) (k5 : (¬ (v2 < nI 1)) → (¬ (v2 ≤ nI 8)) → ((pm_v G 20 0 (nI 1)) 20 0 = 0) → Q (.inl (some (pm_i (nI 1))), (mm x R Z Y o A c (pm_v G 20 0 (nI 1)) g))) (k6 : (¬ (v2 < nI 1)) → (¬ (v2 ≤ nI 8)) → (¬ ((pm_v G 20 0 (nI 1)) 20 0 = 0)) → Q (.inl (some (pm_i (nI 0))), (mm x R Z Y o A c (pm_v G 20 0 (nI 1)) g))) : pW ns d 87 11 [some (pm_r 20 0), u1, some (pm_i v2)] [] (mm x R Z Y o A c G g) Q := by
  refine b87_11 hR  (fun h1 => ?_) (fun h1 => ?_)
  · skip
    refine b87_23 hR   (fun h2 => ?_) (fun h2 => ?_)
    · skip
      exact b87_38 hR   (k1 h1 h2)
    · skip
      exact b87_42 hR   (k2 h1 h2)
  · skip
    refine b87_17 hR   (fun h2 => ?_) (fun h2 => ?_)
    · skip
      refine b87_27 hR   (fun h3 => ?_) (fun h3 => ?_)
      · skip
        exact b87_38 hR   (k3 h1 h2 h3)
      · skip
        exact b87_42 hR   (k4 h1 h2 h3)
    · skip
      refine b87_23 hR   (fun h3 => ?_) (fun h3 => ?_)
      · skip
        exact b87_38 hR   (k5 h1 h2 h3)
      · skip
        exact b87_42 hR   (k6 h1 h2 h3)
set_option maxRecDepth 20000 in
theorem t87_23 (hR : RS R) {u1 : Option pm_V} {u2 : Option pm_V}  (k1 : ((pm_v G 20 0 (nI 1)) 20 0 = 0) → Q (.inl (some (pm_i (nI 1))), (mm x R Z Y o A c (pm_v G 20 0 (nI 1)) g))) (k2 : (¬ ((pm_v G 20 0 (nI 1)) 20 0 = 0)) → Q (.inl (some (pm_i (nI 0))), (mm x R Z Y o A c (pm_v G 20 0 (nI 1)) g))) : pW ns d 87 23 [some (pm_r 20 0), u1, u2] [pm_r 20 0] (mm x R Z Y o A c G g) Q := by
  refine b87_23 hR  (fun h1 => ?_) (fun h1 => ?_)
  · skip
    exact b87_38 hR   (k1 h1)
  · skip
    exact b87_42 hR   (k2 h1)
set_option maxRecDepth 20000 in
theorem t87_17 (hR : RS R) {u1 : Option pm_V} {v2 : Int32}  (k1 : (v2 ≤ nI 8) → ((pm_v G 20 0 (nI 0)) 20 0 = 0) → Q (.inl (some (pm_i (nI 1))), (mm x R Z Y o A c (pm_v G 20 0 (nI 0)) g))) (k2 : (v2 ≤ nI 8) → (¬ ((pm_v G 20 0 (nI 0)) 20 0 = 0)) → Q (.inl (some (pm_i (nI 0))), (mm x R Z Y o A c (pm_v G 20 0 (nI 0)) g))) (k3 : (¬ (v2 ≤ nI 8)) → ((pm_v G 20 0 (nI 1)) 20 0 = 0) → Q (.inl (some (pm_i (nI 1))), (mm x R Z Y o A c (pm_v G 20 0 (nI 1)) g))) (k4 : (¬ (v2 ≤ nI 8)) → (¬ ((pm_v G 20 0 (nI 1)) 20 0 = 0)) → Q (.inl (some (pm_i (nI 0))), (mm x R Z Y o A c (pm_v G 20 0 (nI 1)) g))) : pW ns d 87 17 [some (pm_r 20 0), u1, some (pm_i v2)] [pm_r 20 0] (mm x R Z Y o A c G g) Q := by
  refine b87_17 hR  (fun h1 => ?_) (fun h1 => ?_)
  · skip
    refine b87_27 hR   (fun h2 => ?_) (fun h2 => ?_)
    · skip
      exact b87_38 hR   (k1 h1 h2)
    · skip
      exact b87_42 hR   (k2 h1 h2)
  · skip
    refine b87_23 hR   (fun h2 => ?_) (fun h2 => ?_)
    · skip
      exact b87_38 hR   (k3 h1 h2)
    · skip
      exact b87_42 hR   (k4 h1 h2)
set_option maxRecDepth 20000 in
theorem t87_27 (hR : RS R) {u1 : Option pm_V} {u2 : Option pm_V}  (k1 : ((pm_v G 20 0 (nI 0)) 20 0 = 0) → Q (.inl (some (pm_i (nI 1))), (mm x R Z Y o A c (pm_v G 20 0 (nI 0)) g))) (k2 : (¬ ((pm_v G 20 0 (nI 0)) 20 0 = 0)) → Q (.inl (some (pm_i (nI 0))), (mm x R Z Y o A c (pm_v G 20 0 (nI 0)) g))) : pW ns d 87 27 [some (pm_r 20 0), u1, u2] [pm_r 20 0] (mm x R Z Y o A c G g) Q := by
  refine b87_27 hR  (fun h1 => ?_) (fun h1 => ?_)
  · skip
    exact b87_38 hR   (k1 h1)
  · skip
    exact b87_42 hR   (k2 h1)
/-! 88 JobLayerModel.read -/
set_option maxRecDepth 20000 in
theorem b88_0 (hR : RS R) {v1 : Int32} {v2 : Int32} {v3 : Int32} {u4 : Option pm_V}  {x2 : Nat} {o2 : Int64} {A2 : Nat → Nat → Nat → Int32} {c2 : Nat → Int64} {G2 : Nat → Nat → Int32} {g2 : Nat → Int64} {y : Int32} (hE : pE ns d 87 [pm_r 20 0, pm_i v1, pm_i v3] (mm x R Z Y o A c G g) (.inl (some (pm_i y)), (mm x2 R Z Y o2 A2 c2 G2 g2))) (k : pW ns d 88 6 [some (pm_r 20 0), some (pm_i v1), some (pm_i v2), some (pm_i v3), u4] [pm_i y] (mm x2 R Z Y o2 A2 c2 G2 g2) Q) : pW ns d 88 0 [some (pm_r 20 0), some (pm_i v1), some (pm_i v2), some (pm_i v3), u4] [] (mm x R Z Y o A c G g) Q := by
  refine pW_call (pc' := 3) (r := []) (L' := [some (pm_r 20 0), some (pm_i v1), some (pm_i v2), some (pm_i v3), u4]) 4 (fun call n => ?_) hE k
  exact Eq.trans (b := pm_g (mm x R Z Y o A c G g) 20 0 (pm_cl call 88 (pm_go call ns d 88 n) 3 87 [pm_r 20 0, pm_i v1, pm_i v3] [] [some (pm_r 20 0), some (pm_i v1), some (pm_i v2), some (pm_i v3), u4] (mm x R Z Y o A c G g))) rfl (g_ok (f := 20) (by decide) rfl)
set_option maxRecDepth 20000 in
theorem b88_6 (hR : RS R) {v1 : Int32} {v2 : Int32} {v3 : Int32} {u4 : Option pm_V} {vs0 : Int32}   (k1 : vs0 = 0 → pW ns d 88 9 [some (pm_r 20 0), some (pm_i v1), some (pm_i v2), some (pm_i v3), u4] [] (mm x R Z Y o A c G g) Q) (k2 : ¬ (vs0 = 0) → pW ns d 88 11 [some (pm_r 20 0), some (pm_i v1), some (pm_i v2), some (pm_i v3), u4] [] (mm x R Z Y o A c G g) Q) : pW ns d 88 6 [some (pm_r 20 0), some (pm_i v1), some (pm_i v2), some (pm_i v3), u4] [pm_i vs0] (mm x R Z Y o A c G g) Q := by
  exact pW_if 1 (c := vs0 = 0) (fun call n => rfl) k1 k2
set_option maxRecDepth 20000 in
theorem b88_9 (hR : RS R) {u0 : Option pm_V} {u1 : Option pm_V} {u2 : Option pm_V} {u3 : Option pm_V} {u4 : Option pm_V}   (k : Q (.inl (some (pm_i (nI 0))), (mm x R Z Y o A c G g))) : pW ns d 88 9 [u0, u1, u2, u3, u4] [] (mm x R Z Y o A c G g) Q := by
  refine pW_ret 2 (fun call n => ?_) k
  rfl
set_option maxRecDepth 20000 in
theorem b88_11 (hR : RS R) {v1 : Int32} {v2 : Int32} {v3 : Int32} {u4 : Option pm_V}  {x2 : Nat} {o2 : Int64} {A2 : Nat → Nat → Nat → Int32} {c2 : Nat → Int64} {G2 : Nat → Nat → Int32} {g2 : Nat → Int64} {y : Int32} (hE : pE ns d 52 [pm_r 20 0, pm_i v1, pm_i v2] (mm x R Z Y o A c G g) (.inl (some (pm_i y)), (mm x2 R Z Y o2 A2 c2 G2 g2))) (k : pW ns d 88 17 [some (pm_r 20 0), some (pm_i v1), some (pm_i v2), some (pm_i v3), u4] [pm_i y] (mm x2 R Z Y o2 A2 c2 G2 g2) Q) : pW ns d 88 11 [some (pm_r 20 0), some (pm_i v1), some (pm_i v2), some (pm_i v3), u4] [] (mm x R Z Y o A c G g) Q := by
  refine pW_call (pc' := 14) (r := []) (L' := [some (pm_r 20 0), some (pm_i v1), some (pm_i v2), some (pm_i v3), u4]) 4 (fun call n => ?_) hE k
  exact Eq.trans (b := pm_g (mm x R Z Y o A c G g) 20 0 (pm_cl call 88 (pm_go call ns d 88 n) 14 52 [pm_r 20 0, pm_i v1, pm_i v2] [] [some (pm_r 20 0), some (pm_i v1), some (pm_i v2), some (pm_i v3), u4] (mm x R Z Y o A c G g))) rfl (g_ok (f := 20) (by decide) rfl)
set_option maxRecDepth 20000 in
theorem b88_17 (hR : RS R) {v1 : Int32} {v2 : Int32} {v3 : Int32} {u4 : Option pm_V} {vs0 : Int32}   (k1 : vs0 ≤ 0 → pW ns d 88 38 [some (pm_r 20 0), some (pm_i v1), some (pm_i v2), some (pm_i v3), some (pm_i vs0)] [] (mm x R Z Y o A c G g) Q) (k2 : ¬ (vs0 ≤ 0) → pW ns d 88 24 [some (pm_r 20 0), some (pm_i v1), some (pm_i v2), some (pm_i v3), some (pm_i vs0)] [] (mm x R Z Y o A c G g) Q) : pW ns d 88 17 [some (pm_r 20 0), some (pm_i v1), some (pm_i v2), some (pm_i v3), u4] [pm_i vs0] (mm x R Z Y o A c G g) Q := by
  exact pW_if 3 (c := vs0 ≤ 0) (fun call n => rfl) k1 k2
set_option maxRecDepth 20000 in
theorem b88_38 (hR : RS R) {u0 : Option pm_V} {u1 : Option pm_V} {u2 : Option pm_V} {u3 : Option pm_V} {u4 : Option pm_V}   (k : Q (.inl (some (pm_i (-nI 1))), (mm x R Z Y o A c G g))) : pW ns d 88 38 [u0, u1, u2, u3, u4] [] (mm x R Z Y o A c G g) Q := by
  refine pW_ret 2 (fun call n => ?_) k
  rfl
set_option maxRecDepth 20000 in
theorem b88_24 (hR : RS R) {v1 : Int32} {v2 : Int32} {v3 : Int32} {v4 : Int32}   (k1 : v4 ≤ nI 1 → pW ns d 88 40 [some (pm_r 20 0), some (pm_i v1), some (pm_i v2), some (pm_i v3), some (pm_i v4)] [] (mm x R Z Y o A c G g) Q) (k2 : ¬ (v4 ≤ nI 1) → pW ns d 88 30 [some (pm_r 20 0), some (pm_i v1), some (pm_i v2), some (pm_i v3), some (pm_i v4)] [] (mm x R Z Y o A c G g) Q) : pW ns d 88 24 [some (pm_r 20 0), some (pm_i v1), some (pm_i v2), some (pm_i v3), some (pm_i v4)] [] (mm x R Z Y o A c G g) Q := by
  exact pW_if 3 (c := v4 ≤ nI 1) (fun call n => rfl) k1 k2
set_option maxRecDepth 20000 in
theorem b88_40 (hR : RS R) {v1 : Int32} {v2 : Int32} {v3 : Int32} {u4 : Option pm_V} {j1 : Nat} (e1 : v1 = nI j1) (l1 : j1 < 8) {x2 : Nat} {o2 : Int64} {A2 : Nat → Nat → Nat → Int32} {c2 : Nat → Int64} {G2 : Nat → Nat → Int32} {g2 : Nat → Int64} {y : Int32} (hE : pE ns d 74 [pm_r 20 0, pm_i v1, pm_i (nI 1)] (mm x R Z Y o A c (pm_v (pm_v G 35 j1 v2) 36 j1 v3) g) (.inl (some (pm_i y)), (mm x2 R Z Y o2 A2 c2 G2 g2))) (k : pW ns d 88 60 [some (pm_r 20 0), some (pm_i v1), some (pm_i v2), some (pm_i v3), u4] [pm_i y] (mm x2 R Z Y o2 A2 c2 G2 g2) Q) : pW ns d 88 40 [some (pm_r 20 0), some (pm_i v1), some (pm_i v2), some (pm_i v3), u4] [] (mm x R Z Y o A c G g) Q := by
  refine pW_eq 2 (pc' := 44) (L' := [some (pm_r 20 0), some (pm_i v1), some (pm_i v2), some (pm_i v3), u4]) (S' := [pm_r 35 0]) (M' := (mm x R Z Y o A c G g)) (fun call n => ?_) ?_
  · refine Eq.trans (b := pm_g (mm x R Z Y o A c G g) 20 0 (pm_go call ns d 88 n 44 [some (pm_r 20 0), some (pm_i v1), some (pm_i v2), some (pm_i v3), u4] [pm_a (R 20 0 15)] (mm x R Z Y o A c G g))) rfl ?_
    refine (g_ok (f := 20) (by decide) rfl).trans ?_
    exact (congrArg (fun z => pm_go call ns d 88 n 44 [some (pm_r 20 0), some (pm_i v1), some (pm_i v2), some (pm_i v3), u4] [pm_a z] (mm x R Z Y o A c G g)) (rs_20_15 hR))
  refine pW_eq 3 (pc' := 47) (L' := [some (pm_r 20 0), some (pm_i v1), some (pm_i v2), some (pm_i v3), u4]) (S' := []) (M' := (mm x R Z Y o A c (pm_v G 35 j1 v2) g)) (fun call n => ?_) ?_
  · refine Eq.trans (b := pm_g (mm x R Z Y o A c G g) 35 0 (pm_ix (v1) 8 (fun jx => pm_go call ns d 88 n 47 [some (pm_r 20 0), some (pm_i v1), some (pm_i v2), some (pm_i v3), u4] [] (pm_u (mA Z A G) 35 0 jx v2, mB Y o c g, R, pm_tot, x)))) rfl ?_
    refine (g_ok (f := 35) (by decide) rfl).trans ?_
    refine (ix_ok (j := j1) e1 l1 (by decide)).trans ?_
    exact (congrArg (fun z => pm_go call ns d 88 n 47 [some (pm_r 20 0), some (pm_i v1), some (pm_i v2), some (pm_i v3), u4] [] (z, mB Y o c g, R, pm_tot, x)) (uG (by decide)))
  refine pW_eq 2 (pc' := 51) (L' := [some (pm_r 20 0), some (pm_i v1), some (pm_i v2), some (pm_i v3), u4]) (S' := [pm_r 36 0]) (M' := (mm x R Z Y o A c (pm_v G 35 j1 v2) g)) (fun call n => ?_) ?_
  · refine Eq.trans (b := pm_g (mm x R Z Y o A c (pm_v G 35 j1 v2) g) 20 0 (pm_go call ns d 88 n 51 [some (pm_r 20 0), some (pm_i v1), some (pm_i v2), some (pm_i v3), u4] [pm_a (R 20 0 16)] (mm x R Z Y o A c (pm_v G 35 j1 v2) g))) rfl ?_
    refine (g_ok (f := 20) (by decide) rfl).trans ?_
    exact (congrArg (fun z => pm_go call ns d 88 n 51 [some (pm_r 20 0), some (pm_i v1), some (pm_i v2), some (pm_i v3), u4] [pm_a z] (mm x R Z Y o A c (pm_v G 35 j1 v2) g)) (rs_20_16 hR))
  refine pW_eq 3 (pc' := 54) (L' := [some (pm_r 20 0), some (pm_i v1), some (pm_i v2), some (pm_i v3), u4]) (S' := []) (M' := (mm x R Z Y o A c (pm_v (pm_v G 35 j1 v2) 36 j1 v3) g)) (fun call n => ?_) ?_
  · refine Eq.trans (b := pm_g (mm x R Z Y o A c (pm_v G 35 j1 v2) g) 36 0 (pm_ix (v1) 8 (fun jx => pm_go call ns d 88 n 54 [some (pm_r 20 0), some (pm_i v1), some (pm_i v2), some (pm_i v3), u4] [] (pm_u (mA Z A (pm_v G 35 j1 v2)) 36 0 jx v3, mB Y o c g, R, pm_tot, x)))) rfl ?_
    refine (g_ok (f := 36) (by decide) rfl).trans ?_
    refine (ix_ok (j := j1) e1 l1 (by decide)).trans ?_
    exact (congrArg (fun z => pm_go call ns d 88 n 54 [some (pm_r 20 0), some (pm_i v1), some (pm_i v2), some (pm_i v3), u4] [] (z, mB Y o c g, R, pm_tot, x)) (uG (by decide)))
  refine pW_call (pc' := 57) (r := []) (L' := [some (pm_r 20 0), some (pm_i v1), some (pm_i v2), some (pm_i v3), u4]) 4 (fun call n => ?_) hE k
  exact Eq.trans (b := pm_g (mm x R Z Y o A c (pm_v (pm_v G 35 j1 v2) 36 j1 v3) g) 20 0 (pm_cl call 88 (pm_go call ns d 88 n) 57 74 [pm_r 20 0, pm_i v1, pm_i (nI 1)] [] [some (pm_r 20 0), some (pm_i v1), some (pm_i v2), some (pm_i v3), u4] (mm x R Z Y o A c (pm_v (pm_v G 35 j1 v2) 36 j1 v3) g))) rfl (g_ok (f := 20) (by decide) rfl)
set_option maxRecDepth 20000 in
theorem b88_30 (hR : RS R) {v1 : Int32} {v2 : Int32} {v3 : Int32} {v4 : Int32}   (k1 : v4 - v4 / (nI 2) * (nI 2) = nI 1 → pW ns d 88 38 [some (pm_r 20 0), some (pm_i v1), some (pm_i v2), some (pm_i v3), some (pm_i v4)] [] (mm x R Z Y o A c G g) Q) (k2 : ¬ (v4 - v4 / (nI 2) * (nI 2) = nI 1) → pW ns d 88 40 [some (pm_r 20 0), some (pm_i v1), some (pm_i v2), some (pm_i v3), some (pm_i v4)] [] (mm x R Z Y o A c G g) Q) : pW ns d 88 30 [some (pm_r 20 0), some (pm_i v1), some (pm_i v2), some (pm_i v3), some (pm_i v4)] [] (mm x R Z Y o A c G g) Q := by
  refine pW_eq 3 (pc' := 34) (L' := [some (pm_r 20 0), some (pm_i v1), some (pm_i v2), some (pm_i v3), some (pm_i v4)]) (S' := [pm_i (v4 - v4 / (nI 2) * (nI 2))]) (M' := (mm x R Z Y o A c G g)) (fun call n => ?_) ?_
  · refine Eq.trans (b := if (nI 2) = 0 then none else pm_go call ns d 88 n 34 [some (pm_r 20 0), some (pm_i v1), some (pm_i v2), some (pm_i v3), some (pm_i v4)] [pm_i (v4 - v4 / (nI 2) * (nI 2))] (mm x R Z Y o A c G g)) rfl ?_
    refine (if_neg (by decide)).trans ?_
    rfl
  exact pW_if 2 (c := v4 - v4 / (nI 2) * (nI 2) = nI 1) (fun call n => rfl) k1 k2
set_option maxRecDepth 20000 in
theorem b88_60 (hR : RS R) {u0 : Option pm_V} {u1 : Option pm_V} {u2 : Option pm_V} {u3 : Option pm_V} {u4 : Option pm_V} {vs0 : Int32}   (k : Q (.inl (some (pm_i vs0)), (mm x R Z Y o A c G g))) : pW ns d 88 60 [u0, u1, u2, u3, u4] [pm_i vs0] (mm x R Z Y o A c G g) Q := by
  refine pW_ret 1 (fun call n => ?_) k
  rfl
set_option maxRecDepth 20000 in
theorem t88_6 (hR : RS R) {v1 : Int32} {v2 : Int32} {v3 : Int32} {u4 : Option pm_V} {vs0 : Int32}  (k1 : (vs0 = 0) → Q (.inl (some (pm_i (nI 0))), (mm x R Z Y o A c G g))) (k2 : (¬ (vs0 = 0)) → pW ns d 88 11 [some (pm_r 20 0), some (pm_i v1), some (pm_i v2), some (pm_i v3), u4] [] (mm x R Z Y o A c G g) Q) : pW ns d 88 6 [some (pm_r 20 0), some (pm_i v1), some (pm_i v2), some (pm_i v3), u4] [pm_i vs0] (mm x R Z Y o A c G g) Q := by
  refine b88_6 hR  (fun h1 => ?_) (fun h1 => ?_)
  · skip
    exact b88_9 hR   (k1 h1)
  · skip
    exact (k2 h1)
set_option maxRecDepth 20000 in
theorem t88_17 (hR : RS R) {v1 : Int32} {v2 : Int32} {v3 : Int32} {u4 : Option pm_V} {vs0 : Int32}  (k1 : (vs0 ≤ 0) → Q (.inl (some (pm_i (-nI 1))), (mm x R Z Y o A c G g))) (k2 : (¬ (vs0 ≤ 0)) → (vs0 ≤ nI 1) → pW ns d 88 40 [some (pm_r 20 0), some (pm_i v1), some (pm_i v2), some (pm_i v3), some (pm_i vs0)] [] (mm x R Z Y o A c G g) Q) (k3 : (¬ (vs0 ≤ 0)) → (¬ (vs0 ≤ nI 1)) → (vs0 - vs0 / (nI 2) * (nI 2) = nI 1) → Q (.inl (some (pm_i (-nI 1))), (mm x R Z Y o A c G g))) (k4 : (¬ (vs0 ≤ 0)) → (¬ (vs0 ≤ nI 1)) → (¬ (vs0 - vs0 / (nI 2) * (nI 2) = nI 1)) → pW ns d 88 40 [some (pm_r 20 0), some (pm_i v1), some (pm_i v2), some (pm_i v3), some (pm_i vs0)] [] (mm x R Z Y o A c G g) Q) : pW ns d 88 17 [some (pm_r 20 0), some (pm_i v1), some (pm_i v2), some (pm_i v3), u4] [pm_i vs0] (mm x R Z Y o A c G g) Q := by
  refine b88_17 hR  (fun h1 => ?_) (fun h1 => ?_)
  · skip
    exact b88_38 hR   (k1 h1)
  · skip
    refine b88_24 hR   (fun h2 => ?_) (fun h2 => ?_)
    · skip
      exact (k2 h1 h2)
    · skip
      refine b88_30 hR   (fun h3 => ?_) (fun h3 => ?_)
      · skip
        exact b88_38 hR   (k3 h1 h2 h3)
      · skip
        exact (k4 h1 h2 h3)
set_option maxRecDepth 20000 in
theorem t88_24 (hR : RS R) {v1 : Int32} {v2 : Int32} {v3 : Int32} {v4 : Int32}  (k1 : (v4 ≤ nI 1) → pW ns d 88 40 [some (pm_r 20 0), some (pm_i v1), some (pm_i v2), some (pm_i v3), some (pm_i v4)] [] (mm x R Z Y o A c G g) Q) (k2 : (¬ (v4 ≤ nI 1)) → (v4 - v4 / (nI 2) * (nI 2) = nI 1) → Q (.inl (some (pm_i (-nI 1))), (mm x R Z Y o A c G g))) (k3 : (¬ (v4 ≤ nI 1)) → (¬ (v4 - v4 / (nI 2) * (nI 2) = nI 1)) → pW ns d 88 40 [some (pm_r 20 0), some (pm_i v1), some (pm_i v2), some (pm_i v3), some (pm_i v4)] [] (mm x R Z Y o A c G g) Q) : pW ns d 88 24 [some (pm_r 20 0), some (pm_i v1), some (pm_i v2), some (pm_i v3), some (pm_i v4)] [] (mm x R Z Y o A c G g) Q := by
  refine b88_24 hR  (fun h1 => ?_) (fun h1 => ?_)
  · skip
    exact (k1 h1)
  · skip
    refine b88_30 hR   (fun h2 => ?_) (fun h2 => ?_)
    · skip
      exact b88_38 hR   (k2 h1 h2)
    · skip
      exact (k3 h1 h2)
set_option maxRecDepth 20000 in
theorem t88_30 (hR : RS R) {v1 : Int32} {v2 : Int32} {v3 : Int32} {v4 : Int32}  (k1 : (v4 - v4 / (nI 2) * (nI 2) = nI 1) → Q (.inl (some (pm_i (-nI 1))), (mm x R Z Y o A c G g))) (k2 : (¬ (v4 - v4 / (nI 2) * (nI 2) = nI 1)) → pW ns d 88 40 [some (pm_r 20 0), some (pm_i v1), some (pm_i v2), some (pm_i v3), some (pm_i v4)] [] (mm x R Z Y o A c G g) Q) : pW ns d 88 30 [some (pm_r 20 0), some (pm_i v1), some (pm_i v2), some (pm_i v3), some (pm_i v4)] [] (mm x R Z Y o A c G g) Q := by
  refine b88_30 hR  (fun h1 => ?_) (fun h1 => ?_)
  · skip
    exact b88_38 hR   (k1 h1)
  · skip
    exact (k2 h1)
/-! 89 JobLayerModel.write -/
set_option maxRecDepth 20000 in
theorem b89_0 (hR : RS R) {v1 : Int32} {v2 : Int32} {w3 : Int64} {u4 : Option pm_V} {v5 : Int32} {u6 : Option pm_V}  {x2 : Nat} {o2 : Int64} {A2 : Nat → Nat → Nat → Int32} {c2 : Nat → Int64} {G2 : Nat → Nat → Int32} {g2 : Nat → Int64} {y : Int32} (hE : pE ns d 87 [pm_r 20 0, pm_i v1, pm_i v5] (mm x R Z Y o A c G g) (.inl (some (pm_i y)), (mm x2 R Z Y o2 A2 c2 G2 g2))) (k : pW ns d 89 7 [some (pm_r 20 0), some (pm_i v1), some (pm_i v2), some (pm_l (w3)), u4, some (pm_i v5), u6] [pm_i y] (mm x2 R Z Y o2 A2 c2 G2 g2) Q) : pW ns d 89 0 [some (pm_r 20 0), some (pm_i v1), some (pm_i v2), some (pm_l (w3)), u4, some (pm_i v5), u6] [] (mm x R Z Y o A c G g) Q := by
  refine pW_call (pc' := 4) (r := []) (L' := [some (pm_r 20 0), some (pm_i v1), some (pm_i v2), some (pm_l (w3)), u4, some (pm_i v5), u6]) 4 (fun call n => ?_) hE k
  exact Eq.trans (b := pm_g (mm x R Z Y o A c G g) 20 0 (pm_cl call 89 (pm_go call ns d 89 n) 4 87 [pm_r 20 0, pm_i v1, pm_i v5] [] [some (pm_r 20 0), some (pm_i v1), some (pm_i v2), some (pm_l (w3)), u4, some (pm_i v5), u6] (mm x R Z Y o A c G g))) rfl (g_ok (f := 20) (by decide) rfl)
set_option maxRecDepth 20000 in
theorem b89_7 (hR : RS R) {v1 : Int32} {v2 : Int32} {w3 : Int64} {u4 : Option pm_V} {v5 : Int32} {u6 : Option pm_V} {vs0 : Int32}   (k1 : vs0 = 0 → pW ns d 89 10 [some (pm_r 20 0), some (pm_i v1), some (pm_i v2), some (pm_l (w3)), u4, some (pm_i v5), u6] [] (mm x R Z Y o A c G g) Q) (k2 : ¬ (vs0 = 0) → pW ns d 89 12 [some (pm_r 20 0), some (pm_i v1), some (pm_i v2), some (pm_l (w3)), u4, some (pm_i v5), u6] [] (mm x R Z Y o A c G g) Q) : pW ns d 89 7 [some (pm_r 20 0), some (pm_i v1), some (pm_i v2), some (pm_l (w3)), u4, some (pm_i v5), u6] [pm_i vs0] (mm x R Z Y o A c G g) Q := by
  exact pW_if 1 (c := vs0 = 0) (fun call n => rfl) k1 k2
set_option maxRecDepth 20000 in
theorem b89_10 (hR : RS R) {u0 : Option pm_V} {u1 : Option pm_V} {u2 : Option pm_V} {u3 : Option pm_V} {u4 : Option pm_V} {u5 : Option pm_V} {u6 : Option pm_V}   (k : Q (.inl (some (pm_i (nI 0))), (mm x R Z Y o A c G g))) : pW ns d 89 10 [u0, u1, u2, u3, u4, u5, u6] [] (mm x R Z Y o A c G g) Q := by
  refine pW_ret 2 (fun call n => ?_) k
  rfl
set_option maxRecDepth 20000 in
theorem b89_12 (hR : RS R) {v1 : Int32} {v2 : Int32} {w3 : Int64} {u4 : Option pm_V} {v5 : Int32} {u6 : Option pm_V}  {x2 : Nat} {o2 : Int64} {A2 : Nat → Nat → Nat → Int32} {c2 : Nat → Int64} {G2 : Nat → Nat → Int32} {g2 : Nat → Int64} {y : Int32} (hE : pE ns d 52 [pm_r 20 0, pm_i v1, pm_i v2] (mm x R Z Y o A c G g) (.inl (some (pm_i y)), (mm x2 R Z Y o2 A2 c2 G2 g2))) (k : pW ns d 89 18 [some (pm_r 20 0), some (pm_i v1), some (pm_i v2), some (pm_l (w3)), u4, some (pm_i v5), u6] [pm_i y] (mm x2 R Z Y o2 A2 c2 G2 g2) Q) : pW ns d 89 12 [some (pm_r 20 0), some (pm_i v1), some (pm_i v2), some (pm_l (w3)), u4, some (pm_i v5), u6] [] (mm x R Z Y o A c G g) Q := by
  refine pW_call (pc' := 15) (r := []) (L' := [some (pm_r 20 0), some (pm_i v1), some (pm_i v2), some (pm_l (w3)), u4, some (pm_i v5), u6]) 4 (fun call n => ?_) hE k
  exact Eq.trans (b := pm_g (mm x R Z Y o A c G g) 20 0 (pm_cl call 89 (pm_go call ns d 89 n) 15 52 [pm_r 20 0, pm_i v1, pm_i v2] [] [some (pm_r 20 0), some (pm_i v1), some (pm_i v2), some (pm_l (w3)), u4, some (pm_i v5), u6] (mm x R Z Y o A c G g))) rfl (g_ok (f := 20) (by decide) rfl)
set_option maxRecDepth 20000 in
theorem b89_18 (hR : RS R) {v1 : Int32} {v2 : Int32} {w3 : Int64} {u4 : Option pm_V} {v5 : Int32} {u6 : Option pm_V} {vs0 : Int32}   (k1 : vs0 ≤ 0 → pW ns d 89 32 [some (pm_r 20 0), some (pm_i v1), some (pm_i v2), some (pm_l (w3)), u4, some (pm_i v5), some (pm_i vs0)] [] (mm x R Z Y o A c G g) Q) (k2 : ¬ (vs0 ≤ 0) → pW ns d 89 25 [some (pm_r 20 0), some (pm_i v1), some (pm_i v2), some (pm_l (w3)), u4, some (pm_i v5), some (pm_i vs0)] [] (mm x R Z Y o A c G g) Q) : pW ns d 89 18 [some (pm_r 20 0), some (pm_i v1), some (pm_i v2), some (pm_l (w3)), u4, some (pm_i v5), u6] [pm_i vs0] (mm x R Z Y o A c G g) Q := by
  exact pW_if 3 (c := vs0 ≤ 0) (fun call n => rfl) k1 k2
set_option maxRecDepth 20000 in
theorem b89_32 (hR : RS R) {u0 : Option pm_V} {u1 : Option pm_V} {u2 : Option pm_V} {u3 : Option pm_V} {u4 : Option pm_V} {u5 : Option pm_V} {u6 : Option pm_V}   (k : Q (.inl (some (pm_i (-nI 1))), (mm x R Z Y o A c G g))) : pW ns d 89 32 [u0, u1, u2, u3, u4, u5, u6] [] (mm x R Z Y o A c G g) Q := by
  refine pW_ret 2 (fun call n => ?_) k
  rfl
set_option maxRecDepth 20000 in
theorem b89_25 (hR : RS R) {v1 : Int32} {v2 : Int32} {w3 : Int64} {u4 : Option pm_V} {v5 : Int32} {v6 : Int32}   (k1 : v6 - v6 / (nI 2) * (nI 2) = 0 → pW ns d 89 32 [some (pm_r 20 0), some (pm_i v1), some (pm_i v2), some (pm_l (w3)), u4, some (pm_i v5), some (pm_i v6)] [] (mm x R Z Y o A c G g) Q) (k2 : ¬ (v6 - v6 / (nI 2) * (nI 2) = 0) → pW ns d 89 34 [some (pm_r 20 0), some (pm_i v1), some (pm_i v2), some (pm_l (w3)), u4, some (pm_i v5), some (pm_i v6)] [] (mm x R Z Y o A c G g) Q) : pW ns d 89 25 [some (pm_r 20 0), some (pm_i v1), some (pm_i v2), some (pm_l (w3)), u4, some (pm_i v5), some (pm_i v6)] [] (mm x R Z Y o A c G g) Q := by
  refine pW_eq 3 (pc' := 29) (L' := [some (pm_r 20 0), some (pm_i v1), some (pm_i v2), some (pm_l (w3)), u4, some (pm_i v5), some (pm_i v6)]) (S' := [pm_i (v6 - v6 / (nI 2) * (nI 2))]) (M' := (mm x R Z Y o A c G g)) (fun call n => ?_) ?_
  · refine Eq.trans (b := if (nI 2) = 0 then none else pm_go call ns d 89 n 29 [some (pm_r 20 0), some (pm_i v1), some (pm_i v2), some (pm_l (w3)), u4, some (pm_i v5), some (pm_i v6)] [pm_i (v6 - v6 / (nI 2) * (nI 2))] (mm x R Z Y o A c G g)) rfl ?_
    refine (if_neg (by decide)).trans ?_
    rfl
  exact pW_if 1 (c := v6 - v6 / (nI 2) * (nI 2) = 0) (fun call n => rfl) k1 k2
set_option maxRecDepth 20000 in
theorem b89_34 (hR : RS R) {v1 : Int32} {v2 : Int32} {w3 : Int64} {u4 : Option pm_V} {v5 : Int32} {u6 : Option pm_V} {j1 : Nat} (e1 : v1 = nI j1) (l1 : j1 < 8) {x2 : Nat} {o2 : Int64} {A2 : Nat → Nat → Nat → Int32} {c2 : Nat → Int64} {G2 : Nat → Nat → Int32} {g2 : Nat → Int64} {y : Int32} (hE : pE ns d 74 [pm_r 20 0, pm_i v1, pm_i (nI 2)] (mm x R Z Y o A c (pm_v (pm_v G 35 j1 v2) 36 j1 v5) (pm_w g j1 w3)) (.inl (some (pm_i y)), (mm x2 R Z Y o2 A2 c2 G2 g2))) (k : pW ns d 89 62 [some (pm_r 20 0), some (pm_i v1), some (pm_i v2), some (pm_l (w3)), u4, some (pm_i v5), u6] [pm_i y] (mm x2 R Z Y o2 A2 c2 G2 g2) Q) : pW ns d 89 34 [some (pm_r 20 0), some (pm_i v1), some (pm_i v2), some (pm_l (w3)), u4, some (pm_i v5), u6] [] (mm x R Z Y o A c G g) Q := by
  refine pW_eq 2 (pc' := 38) (L' := [some (pm_r 20 0), some (pm_i v1), some (pm_i v2), some (pm_l (w3)), u4, some (pm_i v5), u6]) (S' := [pm_r 35 0]) (M' := (mm x R Z Y o A c G g)) (fun call n => ?_) ?_
  · refine Eq.trans (b := pm_g (mm x R Z Y o A c G g) 20 0 (pm_go call ns d 89 n 38 [some (pm_r 20 0), some (pm_i v1), some (pm_i v2), some (pm_l (w3)), u4, some (pm_i v5), u6] [pm_a (R 20 0 15)] (mm x R Z Y o A c G g))) rfl ?_
    refine (g_ok (f := 20) (by decide) rfl).trans ?_
    exact (congrArg (fun z => pm_go call ns d 89 n 38 [some (pm_r 20 0), some (pm_i v1), some (pm_i v2), some (pm_l (w3)), u4, some (pm_i v5), u6] [pm_a z] (mm x R Z Y o A c G g)) (rs_20_15 hR))
  refine pW_eq 3 (pc' := 41) (L' := [some (pm_r 20 0), some (pm_i v1), some (pm_i v2), some (pm_l (w3)), u4, some (pm_i v5), u6]) (S' := []) (M' := (mm x R Z Y o A c (pm_v G 35 j1 v2) g)) (fun call n => ?_) ?_
  · refine Eq.trans (b := pm_g (mm x R Z Y o A c G g) 35 0 (pm_ix (v1) 8 (fun jx => pm_go call ns d 89 n 41 [some (pm_r 20 0), some (pm_i v1), some (pm_i v2), some (pm_l (w3)), u4, some (pm_i v5), u6] [] (pm_u (mA Z A G) 35 0 jx v2, mB Y o c g, R, pm_tot, x)))) rfl ?_
    refine (g_ok (f := 35) (by decide) rfl).trans ?_
    refine (ix_ok (j := j1) e1 l1 (by decide)).trans ?_
    exact (congrArg (fun z => pm_go call ns d 89 n 41 [some (pm_r 20 0), some (pm_i v1), some (pm_i v2), some (pm_l (w3)), u4, some (pm_i v5), u6] [] (z, mB Y o c g, R, pm_tot, x)) (uG (by decide)))
  refine pW_eq 2 (pc' := 45) (L' := [some (pm_r 20 0), some (pm_i v1), some (pm_i v2), some (pm_l (w3)), u4, some (pm_i v5), u6]) (S' := [pm_r 36 0]) (M' := (mm x R Z Y o A c (pm_v G 35 j1 v2) g)) (fun call n => ?_) ?_
  · refine Eq.trans (b := pm_g (mm x R Z Y o A c (pm_v G 35 j1 v2) g) 20 0 (pm_go call ns d 89 n 45 [some (pm_r 20 0), some (pm_i v1), some (pm_i v2), some (pm_l (w3)), u4, some (pm_i v5), u6] [pm_a (R 20 0 16)] (mm x R Z Y o A c (pm_v G 35 j1 v2) g))) rfl ?_
    refine (g_ok (f := 20) (by decide) rfl).trans ?_
    exact (congrArg (fun z => pm_go call ns d 89 n 45 [some (pm_r 20 0), some (pm_i v1), some (pm_i v2), some (pm_l (w3)), u4, some (pm_i v5), u6] [pm_a z] (mm x R Z Y o A c (pm_v G 35 j1 v2) g)) (rs_20_16 hR))
  refine pW_eq 3 (pc' := 49) (L' := [some (pm_r 20 0), some (pm_i v1), some (pm_i v2), some (pm_l (w3)), u4, some (pm_i v5), u6]) (S' := []) (M' := (mm x R Z Y o A c (pm_v (pm_v G 35 j1 v2) 36 j1 v5) g)) (fun call n => ?_) ?_
  · refine Eq.trans (b := pm_g (mm x R Z Y o A c (pm_v G 35 j1 v2) g) 36 0 (pm_ix (v1) 8 (fun jx => pm_go call ns d 89 n 49 [some (pm_r 20 0), some (pm_i v1), some (pm_i v2), some (pm_l (w3)), u4, some (pm_i v5), u6] [] (pm_u (mA Z A (pm_v G 35 j1 v2)) 36 0 jx v5, mB Y o c g, R, pm_tot, x)))) rfl ?_
    refine (g_ok (f := 36) (by decide) rfl).trans ?_
    refine (ix_ok (j := j1) e1 l1 (by decide)).trans ?_
    exact (congrArg (fun z => pm_go call ns d 89 n 49 [some (pm_r 20 0), some (pm_i v1), some (pm_i v2), some (pm_l (w3)), u4, some (pm_i v5), u6] [] (z, mB Y o c g, R, pm_tot, x)) (uG (by decide)))
  refine pW_eq 2 (pc' := 53) (L' := [some (pm_r 20 0), some (pm_i v1), some (pm_i v2), some (pm_l (w3)), u4, some (pm_i v5), u6]) (S' := [pm_r 37 0]) (M' := (mm x R Z Y o A c (pm_v (pm_v G 35 j1 v2) 36 j1 v5) g)) (fun call n => ?_) ?_
  · refine Eq.trans (b := pm_g (mm x R Z Y o A c (pm_v (pm_v G 35 j1 v2) 36 j1 v5) g) 20 0 (pm_go call ns d 89 n 53 [some (pm_r 20 0), some (pm_i v1), some (pm_i v2), some (pm_l (w3)), u4, some (pm_i v5), u6] [pm_a (R 20 0 17)] (mm x R Z Y o A c (pm_v (pm_v G 35 j1 v2) 36 j1 v5) g))) rfl ?_
    refine (g_ok (f := 20) (by decide) rfl).trans ?_
    exact (congrArg (fun z => pm_go call ns d 89 n 53 [some (pm_r 20 0), some (pm_i v1), some (pm_i v2), some (pm_l (w3)), u4, some (pm_i v5), u6] [pm_a z] (mm x R Z Y o A c (pm_v (pm_v G 35 j1 v2) 36 j1 v5) g)) (rs_20_17 hR))
  refine pW_eq 3 (pc' := 56) (L' := [some (pm_r 20 0), some (pm_i v1), some (pm_i v2), some (pm_l (w3)), u4, some (pm_i v5), u6]) (S' := []) (M' := (mm x R Z Y o A c (pm_v (pm_v G 35 j1 v2) 36 j1 v5) (pm_w g j1 w3))) (fun call n => ?_) ?_
  · refine Eq.trans (b := pm_g (mm x R Z Y o A c (pm_v (pm_v G 35 j1 v2) 36 j1 v5) g) 37 0 (pm_ix (v1) 8 (fun jx => pm_go call ns d 89 n 56 [some (pm_r 20 0), some (pm_i v1), some (pm_i v2), some (pm_l (w3)), u4, some (pm_i v5), u6] [] (mA Z A (pm_v (pm_v G 35 j1 v2) 36 j1 v5), pm_u (mB Y o c g) 37 0 jx w3, R, pm_tot, x)))) rfl ?_
    refine (g_ok (f := 37) (by decide) rfl).trans ?_
    refine (ix_ok (j := j1) e1 l1 (by decide)).trans ?_
    exact (congrArg (fun z => pm_go call ns d 89 n 56 [some (pm_r 20 0), some (pm_i v1), some (pm_i v2), some (pm_l (w3)), u4, some (pm_i v5), u6] [] (mA Z A (pm_v (pm_v G 35 j1 v2) 36 j1 v5), z, R, pm_tot, x)) uH)
  refine pW_call (pc' := 59) (r := []) (L' := [some (pm_r 20 0), some (pm_i v1), some (pm_i v2), some (pm_l (w3)), u4, some (pm_i v5), u6]) 4 (fun call n => ?_) hE k
  exact Eq.trans (b := pm_g (mm x R Z Y o A c (pm_v (pm_v G 35 j1 v2) 36 j1 v5) (pm_w g j1 w3)) 20 0 (pm_cl call 89 (pm_go call ns d 89 n) 59 74 [pm_r 20 0, pm_i v1, pm_i (nI 2)] [] [some (pm_r 20 0), some (pm_i v1), some (pm_i v2), some (pm_l (w3)), u4, some (pm_i v5), u6] (mm x R Z Y o A c (pm_v (pm_v G 35 j1 v2) 36 j1 v5) (pm_w g j1 w3)))) rfl (g_ok (f := 20) (by decide) rfl)
set_option maxRecDepth 20000 in
theorem b89_62 (hR : RS R) {u0 : Option pm_V} {u1 : Option pm_V} {u2 : Option pm_V} {u3 : Option pm_V} {u4 : Option pm_V} {u5 : Option pm_V} {u6 : Option pm_V} {vs0 : Int32}   (k : Q (.inl (some (pm_i vs0)), (mm x R Z Y o A c G g))) : pW ns d 89 62 [u0, u1, u2, u3, u4, u5, u6] [pm_i vs0] (mm x R Z Y o A c G g) Q := by
  refine pW_ret 1 (fun call n => ?_) k
  rfl
set_option maxRecDepth 20000 in
theorem t89_7 (hR : RS R) {v1 : Int32} {v2 : Int32} {w3 : Int64} {u4 : Option pm_V} {v5 : Int32} {u6 : Option pm_V} {vs0 : Int32}  (k1 : (vs0 = 0) → Q (.inl (some (pm_i (nI 0))), (mm x R Z Y o A c G g))) (k2 : (¬ (vs0 = 0)) → pW ns d 89 12 [some (pm_r 20 0), some (pm_i v1), some (pm_i v2), some (pm_l (w3)), u4, some (pm_i v5), u6] [] (mm x R Z Y o A c G g) Q) : pW ns d 89 7 [some (pm_r 20 0), some (pm_i v1), some (pm_i v2), some (pm_l (w3)), u4, some (pm_i v5), u6] [pm_i vs0] (mm x R Z Y o A c G g) Q := by
  refine b89_7 hR  (fun h1 => ?_) (fun h1 => ?_)
  · skip
    exact b89_10 hR   (k1 h1)
  · skip
    exact (k2 h1)
set_option maxRecDepth 20000 in
theorem t89_18 (hR : RS R) {v1 : Int32} {v2 : Int32} {w3 : Int64} {u4 : Option pm_V} {v5 : Int32} {u6 : Option pm_V} {vs0 : Int32}  (k1 : (vs0 ≤ 0) → Q (.inl (some (pm_i (-nI 1))), (mm x R Z Y o A c G g))) (k2 : (¬ (vs0 ≤ 0)) → (vs0 - vs0 / (nI 2) * (nI 2) = 0) → Q (.inl (some (pm_i (-nI 1))), (mm x R Z Y o A c G g))) (k3 : (¬ (vs0 ≤ 0)) → (¬ (vs0 - vs0 / (nI 2) * (nI 2) = 0)) → pW ns d 89 34 [some (pm_r 20 0), some (pm_i v1), some (pm_i v2), some (pm_l (w3)), u4, some (pm_i v5), some (pm_i vs0)] [] (mm x R Z Y o A c G g) Q) : pW ns d 89 18 [some (pm_r 20 0), some (pm_i v1), some (pm_i v2), some (pm_l (w3)), u4, some (pm_i v5), u6] [pm_i vs0] (mm x R Z Y o A c G g) Q := by
  refine b89_18 hR  (fun h1 => ?_) (fun h1 => ?_)
  · skip
    exact b89_32 hR   (k1 h1)
  · skip
    refine b89_25 hR   (fun h2 => ?_) (fun h2 => ?_)
    · skip
      exact b89_32 hR   (k2 h1 h2)
    · skip
      exact (k3 h1 h2)
set_option maxRecDepth 20000 in
theorem t89_25 (hR : RS R) {v1 : Int32} {v2 : Int32} {w3 : Int64} {u4 : Option pm_V} {v5 : Int32} {v6 : Int32}  (k1 : (v6 - v6 / (nI 2) * (nI 2) = 0) → Q (.inl (some (pm_i (-nI 1))), (mm x R Z Y o A c G g))) (k2 : (¬ (v6 - v6 / (nI 2) * (nI 2) = 0)) → pW ns d 89 34 [some (pm_r 20 0), some (pm_i v1), some (pm_i v2), some (pm_l (w3)), u4, some (pm_i v5), some (pm_i v6)] [] (mm x R Z Y o A c G g) Q) : pW ns d 89 25 [some (pm_r 20 0), some (pm_i v1), some (pm_i v2), some (pm_l (w3)), u4, some (pm_i v5), some (pm_i v6)] [] (mm x R Z Y o A c G g) Q := by
  refine b89_25 hR  (fun h1 => ?_) (fun h1 => ?_)
  · skip
    exact b89_32 hR   (k1 h1)
  · skip
    exact (k2 h1)
/-! 90 JobLayerModel.reap -/
set_option maxRecDepth 20000 in
theorem b90_0 (hR : RS R) {v1 : Int32} {v2 : Int32}  {x2 : Nat} {o2 : Int64} {A2 : Nat → Nat → Nat → Int32} {c2 : Nat → Int64} {G2 : Nat → Nat → Int32} {g2 : Nat → Int64} {y : Int32} (hE : pE ns d 81 [pm_r 20 0, pm_i v1, pm_i (nI 1)] (mm x R Z Y o A c G g) (.inl (some (pm_i y)), (mm x2 R Z Y o2 A2 c2 G2 g2))) (k : pW ns d 90 6 [some (pm_r 20 0), some (pm_i v1), some (pm_i v2)] [pm_i y] (mm x2 R Z Y o2 A2 c2 G2 g2) Q) : pW ns d 90 0 [some (pm_r 20 0), some (pm_i v1), some (pm_i v2)] [] (mm x R Z Y o A c G g) Q := by
  refine pW_call (pc' := 3) (r := []) (L' := [some (pm_r 20 0), some (pm_i v1), some (pm_i v2)]) 4 (fun call n => ?_) hE k
  exact Eq.trans (b := pm_g (mm x R Z Y o A c G g) 20 0 (pm_cl call 90 (pm_go call ns d 90 n) 3 81 [pm_r 20 0, pm_i v1, pm_i (nI 1)] [] [some (pm_r 20 0), some (pm_i v1), some (pm_i v2)] (mm x R Z Y o A c G g))) rfl (g_ok (f := 20) (by decide) rfl)
set_option maxRecDepth 20000 in
theorem b90_6 (hR : RS R) {v1 : Int32} {v2 : Int32} {vs0 : Int32}   (k1 : vs0 = 0 → pW ns d 90 9 [some (pm_r 20 0), some (pm_i v1), some (pm_i v2)] [] (mm x R Z Y o A c G g) Q) (k2 : ¬ (vs0 = 0) → pW ns d 90 11 [some (pm_r 20 0), some (pm_i v1), some (pm_i v2)] [] (mm x R Z Y o A c G g) Q) : pW ns d 90 6 [some (pm_r 20 0), some (pm_i v1), some (pm_i v2)] [pm_i vs0] (mm x R Z Y o A c G g) Q := by
  exact pW_if 1 (c := vs0 = 0) (fun call n => rfl) k1 k2
set_option maxRecDepth 20000 in
theorem b90_9 (hR : RS R) {u0 : Option pm_V} {u1 : Option pm_V} {u2 : Option pm_V}   (k : Q (.inl (some (pm_i (nI 0))), (mm x R Z Y o A c G g))) : pW ns d 90 9 [u0, u1, u2] [] (mm x R Z Y o A c G g) Q := by
  refine pW_ret 2 (fun call n => ?_) k
  rfl
set_option maxRecDepth 20000 in
theorem b90_11 (hR : RS R) {v1 : Int32} {v2 : Int32} {j1 : Nat} (e1 : v1 = nI j1) (l1 : j1 < 8) (z2 : v2 = 0 ∨ v2 = 1) {x2 : Nat} {o2 : Int64} {A2 : Nat → Nat → Nat → Int32} {c2 : Nat → Int64} {G2 : Nat → Nat → Int32} {g2 : Nat → Int64} {y : Int32} (hE : pE ns d 74 [pm_r 20 0, pm_i v1, pm_i (nI 3)] (mm x R Z Y o A c (pm_v G 38 j1 v2) g) (.inl (some (pm_i y)), (mm x2 R Z Y o2 A2 c2 G2 g2))) (k : pW ns d 90 24 [some (pm_r 20 0), some (pm_i v1), some (pm_i v2)] [pm_i y] (mm x2 R Z Y o2 A2 c2 G2 g2) Q) : pW ns d 90 11 [some (pm_r 20 0), some (pm_i v1), some (pm_i v2)] [] (mm x R Z Y o A c G g) Q := by
  refine pW_eq 2 (pc' := 15) (L' := [some (pm_r 20 0), some (pm_i v1), some (pm_i v2)]) (S' := [pm_r 38 0]) (M' := (mm x R Z Y o A c G g)) (fun call n => ?_) ?_
  · refine Eq.trans (b := pm_g (mm x R Z Y o A c G g) 20 0 (pm_go call ns d 90 n 15 [some (pm_r 20 0), some (pm_i v1), some (pm_i v2)] [pm_a (R 20 0 18)] (mm x R Z Y o A c G g))) rfl ?_
    refine (g_ok (f := 20) (by decide) rfl).trans ?_
    exact (congrArg (fun z => pm_go call ns d 90 n 15 [some (pm_r 20 0), some (pm_i v1), some (pm_i v2)] [pm_a z] (mm x R Z Y o A c G g)) (rs_20_18 hR))
  refine pW_eq 3 (pc' := 18) (L' := [some (pm_r 20 0), some (pm_i v1), some (pm_i v2)]) (S' := []) (M' := (mm x R Z Y o A c (pm_v G 38 j1 v2) g)) (fun call n => ?_) ?_
  · refine Eq.trans (b := pm_g (mm x R Z Y o A c G g) 38 0 (pm_ix (v1) 8 (fun jx => pm_bo (v2) (pm_go call ns d 90 n 18 [some (pm_r 20 0), some (pm_i v1), some (pm_i v2)] [] (pm_u (mA Z A G) 38 0 jx v2, mB Y o c g, R, pm_tot, x))))) rfl ?_
    refine (g_ok (f := 38) (by decide) rfl).trans ?_
    refine (ix_ok (j := j1) e1 l1 (by decide)).trans ?_
    refine (bo_ok z2).trans ?_
    exact (congrArg (fun z => pm_go call ns d 90 n 18 [some (pm_r 20 0), some (pm_i v1), some (pm_i v2)] [] (z, mB Y o c g, R, pm_tot, x)) (uG (by decide)))
  refine pW_call (pc' := 21) (r := []) (L' := [some (pm_r 20 0), some (pm_i v1), some (pm_i v2)]) 4 (fun call n => ?_) hE k
  exact Eq.trans (b := pm_g (mm x R Z Y o A c (pm_v G 38 j1 v2) g) 20 0 (pm_cl call 90 (pm_go call ns d 90 n) 21 74 [pm_r 20 0, pm_i v1, pm_i (nI 3)] [] [some (pm_r 20 0), some (pm_i v1), some (pm_i v2)] (mm x R Z Y o A c (pm_v G 38 j1 v2) g))) rfl (g_ok (f := 20) (by decide) rfl)
set_option maxRecDepth 20000 in
theorem b90_24 (hR : RS R) {u0 : Option pm_V} {u1 : Option pm_V} {u2 : Option pm_V} {vs0 : Int32}   (k : Q (.inl (some (pm_i vs0)), (mm x R Z Y o A c G g))) : pW ns d 90 24 [u0, u1, u2] [pm_i vs0] (mm x R Z Y o A c G g) Q := by
  refine pW_ret 1 (fun call n => ?_) k
  rfl
set_option maxRecDepth 20000 in
theorem t90_6 (hR : RS R) {v1 : Int32} {v2 : Int32} {vs0 : Int32}  (k1 : (vs0 = 0) → Q (.inl (some (pm_i (nI 0))), (mm x R Z Y o A c G g))) (k2 : (¬ (vs0 = 0)) → pW ns d 90 11 [some (pm_r 20 0), some (pm_i v1), some (pm_i v2)] [] (mm x R Z Y o A c G g) Q) : pW ns d 90 6 [some (pm_r 20 0), some (pm_i v1), some (pm_i v2)] [pm_i vs0] (mm x R Z Y o A c G g) Q := by
  refine b90_6 hR  (fun h1 => ?_) (fun h1 => ?_)
  · skip
    exact b90_9 hR   (k1 h1)
  · skip
    exact (k2 h1)
/-! 91 JobLayerModel.pause -/
set_option maxRecDepth 20000 in
theorem b91_0 (hR : RS R) {v1 : Int32}  {x2 : Nat} {o2 : Int64} {A2 : Nat → Nat → Nat → Int32} {c2 : Nat → Int64} {G2 : Nat → Nat → Int32} {g2 : Nat → Int64} {y : Int32} (hE : pE ns d 81 [pm_r 20 0, pm_i v1, pm_i (nI 1)] (mm x R Z Y o A c G g) (.inl (some (pm_i y)), (mm x2 R Z Y o2 A2 c2 G2 g2))) (k : pW ns d 91 6 [some (pm_r 20 0), some (pm_i v1)] [pm_i y] (mm x2 R Z Y o2 A2 c2 G2 g2) Q) : pW ns d 91 0 [some (pm_r 20 0), some (pm_i v1)] [] (mm x R Z Y o A c G g) Q := by
  refine pW_call (pc' := 3) (r := []) (L' := [some (pm_r 20 0), some (pm_i v1)]) 4 (fun call n => ?_) hE k
  exact Eq.trans (b := pm_g (mm x R Z Y o A c G g) 20 0 (pm_cl call 91 (pm_go call ns d 91 n) 3 81 [pm_r 20 0, pm_i v1, pm_i (nI 1)] [] [some (pm_r 20 0), some (pm_i v1)] (mm x R Z Y o A c G g))) rfl (g_ok (f := 20) (by decide) rfl)
set_option maxRecDepth 20000 in
theorem b91_6 (hR : RS R) {v1 : Int32} {vs0 : Int32}   (k1 : vs0 = 0 → pW ns d 91 18 [some (pm_r 20 0), some (pm_i v1)] [] (mm x R Z Y o A c G g) Q) (k2 : ¬ (vs0 = 0) → pW ns d 91 9 [some (pm_r 20 0), some (pm_i v1)] [] (mm x R Z Y o A c G g) Q) : pW ns d 91 6 [some (pm_r 20 0), some (pm_i v1)] [pm_i vs0] (mm x R Z Y o A c G g) Q := by
  exact pW_if 1 (c := vs0 = 0) (fun call n => rfl) k1 k2
set_option maxRecDepth 20000 in
theorem b91_18 (hR : RS R) {u0 : Option pm_V} {u1 : Option pm_V}   (k : Q (.inl (some (pm_i (nI 0))), (mm x R Z Y o A c G g))) : pW ns d 91 18 [u0, u1] [] (mm x R Z Y o A c G g) Q := by
  refine pW_ret 2 (fun call n => ?_) k
  rfl
set_option maxRecDepth 20000 in
theorem b91_9 (hR : RS R) {v1 : Int32}  {x2 : Nat} {o2 : Int64} {A2 : Nat → Nat → Nat → Int32} {c2 : Nat → Int64} {G2 : Nat → Nat → Int32} {g2 : Nat → Int64} {y : Int32} (hE : pE ns d 74 [pm_r 20 0, pm_i v1, pm_i (nI 4)] (mm x R Z Y o A c G g) (.inl (some (pm_i y)), (mm x2 R Z Y o2 A2 c2 G2 g2))) (k : pW ns d 91 15 [some (pm_r 20 0), some (pm_i v1)] [pm_i y] (mm x2 R Z Y o2 A2 c2 G2 g2) Q) : pW ns d 91 9 [some (pm_r 20 0), some (pm_i v1)] [] (mm x R Z Y o A c G g) Q := by
  refine pW_call (pc' := 12) (r := []) (L' := [some (pm_r 20 0), some (pm_i v1)]) 4 (fun call n => ?_) hE k
  exact Eq.trans (b := pm_g (mm x R Z Y o A c G g) 20 0 (pm_cl call 91 (pm_go call ns d 91 n) 12 74 [pm_r 20 0, pm_i v1, pm_i (nI 4)] [] [some (pm_r 20 0), some (pm_i v1)] (mm x R Z Y o A c G g))) rfl (g_ok (f := 20) (by decide) rfl)
set_option maxRecDepth 20000 in
theorem b91_15 (hR : RS R) {u0 : Option pm_V} {u1 : Option pm_V} {vs0 : Int32}   (k : Q (.inl (some (pm_i vs0)), (mm x R Z Y o A c G g))) : pW ns d 91 15 [u0, u1] [pm_i vs0] (mm x R Z Y o A c G g) Q := by
  refine pW_ret 2 (fun call n => ?_) k
  rfl
set_option maxRecDepth 20000 in
theorem t91_6 (hR : RS R) {v1 : Int32} {vs0 : Int32}  (k1 : (vs0 = 0) → Q (.inl (some (pm_i (nI 0))), (mm x R Z Y o A c G g))) (k2 : (¬ (vs0 = 0)) → pW ns d 91 9 [some (pm_r 20 0), some (pm_i v1)] [] (mm x R Z Y o A c G g) Q) : pW ns d 91 6 [some (pm_r 20 0), some (pm_i v1)] [pm_i vs0] (mm x R Z Y o A c G g) Q := by
  refine b91_6 hR  (fun h1 => ?_) (fun h1 => ?_)
  · skip
    exact b91_18 hR   (k1 h1)
  · skip
    exact (k2 h1)
/-! 92 JobLayerModel.signal -/
set_option maxRecDepth 20000 in
theorem b92_0 (hR : RS R) {v1 : Int32} {v2 : Int32} {v3 : Int32}  {x2 : Nat} {o2 : Int64} {A2 : Nat → Nat → Nat → Int32} {c2 : Nat → Int64} {G2 : Nat → Nat → Int32} {g2 : Nat → Int64} {y : Int32} (hE : pE ns d 81 [pm_r 20 0, pm_i v1, pm_i (nI 2)] (mm x R Z Y o A c G g) (.inl (some (pm_i y)), (mm x2 R Z Y o2 A2 c2 G2 g2))) (k : pW ns d 92 6 [some (pm_r 20 0), some (pm_i v1), some (pm_i v2), some (pm_i v3)] [pm_i y] (mm x2 R Z Y o2 A2 c2 G2 g2) Q) : pW ns d 92 0 [some (pm_r 20 0), some (pm_i v1), some (pm_i v2), some (pm_i v3)] [] (mm x R Z Y o A c G g) Q := by
  refine pW_call (pc' := 3) (r := []) (L' := [some (pm_r 20 0), some (pm_i v1), some (pm_i v2), some (pm_i v3)]) 4 (fun call n => ?_) hE k
  exact Eq.trans (b := pm_g (mm x R Z Y o A c G g) 20 0 (pm_cl call 92 (pm_go call ns d 92 n) 3 81 [pm_r 20 0, pm_i v1, pm_i (nI 2)] [] [some (pm_r 20 0), some (pm_i v1), some (pm_i v2), some (pm_i v3)] (mm x R Z Y o A c G g))) rfl (g_ok (f := 20) (by decide) rfl)
set_option maxRecDepth 20000 in
theorem b92_6 (hR : RS R) {u1 : Option pm_V} {v2 : Int32} {v3 : Int32} {vs0 : Int32}   (k1 : vs0 = 0 → pW ns d 92 9 [some (pm_r 20 0), u1, some (pm_i v2), some (pm_i v3)] [] (mm x R Z Y o A c G g) Q) (k2 : ¬ (vs0 = 0) → pW ns d 92 11 [some (pm_r 20 0), u1, some (pm_i v2), some (pm_i v3)] [] (mm x R Z Y o A c G g) Q) : pW ns d 92 6 [some (pm_r 20 0), u1, some (pm_i v2), some (pm_i v3)] [pm_i vs0] (mm x R Z Y o A c G g) Q := by
  exact pW_if 1 (c := vs0 = 0) (fun call n => rfl) k1 k2
set_option maxRecDepth 20000 in
theorem b92_9 (hR : RS R) {u0 : Option pm_V} {u1 : Option pm_V} {u2 : Option pm_V} {u3 : Option pm_V}   (k : Q (.inl (some (pm_i (nI 0))), (mm x R Z Y o A c G g))) : pW ns d 92 9 [u0, u1, u2, u3] [] (mm x R Z Y o A c G g) Q := by
  refine pW_ret 2 (fun call n => ?_) k
  rfl
set_option maxRecDepth 20000 in
theorem b92_11 (hR : RS R) {u1 : Option pm_V} {v2 : Int32} {v3 : Int32}   (k1 : v3 < nI 1 → pW ns d 92 34 [some (pm_r 20 0), u1, some (pm_i v2), some (pm_i v3)] [] (mm x R Z Y o A c G g) Q) (k2 : ¬ (v3 < nI 1) → pW ns d 92 16 [some (pm_r 20 0), u1, some (pm_i v2), some (pm_i v3)] [] (mm x R Z Y o A c G g) Q) : pW ns d 92 11 [some (pm_r 20 0), u1, some (pm_i v2), some (pm_i v3)] [] (mm x R Z Y o A c G g) Q := by
  exact pW_if 3 (c := v3 < nI 1) (fun call n => rfl) k1 k2
set_option maxRecDepth 20000 in
theorem b92_34 (hR : RS R) {u1 : Option pm_V} {u2 : Option pm_V} {u3 : Option pm_V}   (k : Q (.inl (some (pm_i (nI 0))), (mm x R Z Y o A c (pm_v G 20 0 (nI 1)) g))) : pW ns d 92 34 [some (pm_r 20 0), u1, u2, u3] [] (mm x R Z Y o A c G g) Q := by
  refine pW_eq 3 (pc' := 39) (L' := [some (pm_r 20 0), u1, u2, u3]) (S' := []) (M' := (mm x R Z Y o A c (pm_v G 20 0 (nI 1)) g)) (fun call n => ?_) ?_
  · refine Eq.trans (b := pm_g (mm x R Z Y o A c G g) 20 0 (pm_go call ns d 92 n 39 [some (pm_r 20 0), u1, u2, u3] [] (pm_u (mA Z A G) 20 0 0 (nI 1), mB Y o c g, R, pm_tot, x))) rfl ?_
    refine (g_ok (f := 20) (by decide) rfl).trans ?_
    exact (congrArg (fun z => pm_go call ns d 92 n 39 [some (pm_r 20 0), u1, u2, u3] [] (z, mB Y o c g, R, pm_tot, x)) (uG (by decide)))
  refine pW_ret 2 (fun call n => ?_) k
  rfl
set_option maxRecDepth 20000 in
theorem b92_16 (hR : RS R) {u1 : Option pm_V} {v2 : Int32} {v3 : Int32}   (k1 : nI 8 < v3 → pW ns d 92 34 [some (pm_r 20 0), u1, some (pm_i v2), some (pm_i v3)] [] (mm x R Z Y o A c G g) Q) (k2 : ¬ (nI 8 < v3) → pW ns d 92 22 [some (pm_r 20 0), u1, some (pm_i v2), some (pm_i v3)] [] (mm x R Z Y o A c G g) Q) : pW ns d 92 16 [some (pm_r 20 0), u1, some (pm_i v2), some (pm_i v3)] [] (mm x R Z Y o A c G g) Q := by
  exact pW_if 3 (c := nI 8 < v3) (fun call n => rfl) k1 k2
set_option maxRecDepth 20000 in
theorem b92_22 (hR : RS R) {u1 : Option pm_V} {v2 : Int32} {v3 : Int32}   (k1 : v2 < -nI 8 → pW ns d 92 34 [some (pm_r 20 0), u1, some (pm_i v2), some (pm_i v3)] [] (mm x R Z Y o A c G g) Q) (k2 : ¬ (v2 < -nI 8) → pW ns d 92 28 [some (pm_r 20 0), u1, some (pm_i v2), some (pm_i v3)] [] (mm x R Z Y o A c G g) Q) : pW ns d 92 22 [some (pm_r 20 0), u1, some (pm_i v2), some (pm_i v3)] [] (mm x R Z Y o A c G g) Q := by
  exact pW_if 3 (c := v2 < -nI 8) (fun call n => rfl) k1 k2
set_option maxRecDepth 20000 in
theorem b92_28 (hR : RS R) {u1 : Option pm_V} {v2 : Int32} {v3 : Int32}   (k1 : v2 ≤ nI 7 → pW ns d 92 41 [some (pm_r 20 0), u1, some (pm_i v2), some (pm_i v3)] [] (mm x R Z Y o A c G g) Q) (k2 : ¬ (v2 ≤ nI 7) → pW ns d 92 34 [some (pm_r 20 0), u1, some (pm_i v2), some (pm_i v3)] [] (mm x R Z Y o A c G g) Q) : pW ns d 92 28 [some (pm_r 20 0), u1, some (pm_i v2), some (pm_i v3)] [] (mm x R Z Y o A c G g) Q := by
  exact pW_if 3 (c := v2 ≤ nI 7) (fun call n => rfl) k1 k2
set_option maxRecDepth 20000 in
theorem b92_41 (hR : RS R) {u1 : Option pm_V} {v2 : Int32} {v3 : Int32}   (k1 : v2 < 0 → pW ns d 92 56 [some (pm_r 20 0), u1, some (pm_i v2), some (pm_i v3)] [] (mm x R Z Y o A c G g) Q) (k2 : ¬ (v2 < 0) → pW ns d 92 45 [some (pm_r 20 0), u1, some (pm_i v2), some (pm_i v3)] [] (mm x R Z Y o A c G g) Q) : pW ns d 92 41 [some (pm_r 20 0), u1, some (pm_i v2), some (pm_i v3)] [] (mm x R Z Y o A c G g) Q := by
  exact pW_if 2 (c := v2 < 0) (fun call n => rfl) k1 k2
set_option maxRecDepth 20000 in
theorem b92_56 (hR : RS R) {u1 : Option pm_V} {v2 : Int32} {v3 : Int32}  {x2 : Nat} {o2 : Int64} {A2 : Nat → Nat → Nat → Int32} {c2 : Nat → Int64} {G2 : Nat → Nat → Int32} {g2 : Nat → Int64} {y : Int32} (hE : pE ns d 53 [pm_r 20 0, pm_i ((-nI 1) - v2)] (mm x R Z Y o A c G g) (.inl (some (pm_i y)), (mm x2 R Z Y o2 A2 c2 G2 g2))) (k : pW ns d 92 63 [some (pm_r 20 0), u1, some (pm_i v2), some (pm_i v3)] [pm_i y] (mm x2 R Z Y o2 A2 c2 G2 g2) Q) : pW ns d 92 56 [some (pm_r 20 0), u1, some (pm_i v2), some (pm_i v3)] [] (mm x R Z Y o A c G g) Q := by
  refine pW_call (pc' := 60) (r := []) (L' := [some (pm_r 20 0), u1, some (pm_i v2), some (pm_i v3)]) 5 (fun call n => ?_) hE k
  exact Eq.trans (b := pm_g (mm x R Z Y o A c G g) 20 0 (pm_cl call 92 (pm_go call ns d 92 n) 60 53 [pm_r 20 0, pm_i ((-nI 1) - v2)] [] [some (pm_r 20 0), u1, some (pm_i v2), some (pm_i v3)] (mm x R Z Y o A c G g))) rfl (g_ok (f := 20) (by decide) rfl)
set_option maxRecDepth 20000 in
theorem b92_45 (hR : RS R) {u1 : Option pm_V} {v2 : Int32} {v3 : Int32}  {x2 : Nat} {o2 : Int64} {A2 : Nat → Nat → Nat → Int32} {c2 : Nat → Int64} {G2 : Nat → Nat → Int32} {g2 : Nat → Int64} {y : Int32} (hE : pE ns d 48 [pm_r 20 0, pm_i v2] (mm x R Z Y o A c G g) (.inl (some (pm_i y)), (mm x2 R Z Y o2 A2 c2 G2 g2))) (k : pW ns d 92 50 [some (pm_r 20 0), u1, some (pm_i v2), some (pm_i v3)] [pm_i y] (mm x2 R Z Y o2 A2 c2 G2 g2) Q) : pW ns d 92 45 [some (pm_r 20 0), u1, some (pm_i v2), some (pm_i v3)] [] (mm x R Z Y o A c G g) Q := by
  refine pW_call (pc' := 47) (r := []) (L' := [some (pm_r 20 0), u1, some (pm_i v2), some (pm_i v3)]) 3 (fun call n => ?_) hE k
  exact Eq.trans (b := pm_g (mm x R Z Y o A c G g) 20 0 (pm_cl call 92 (pm_go call ns d 92 n) 47 48 [pm_r 20 0, pm_i v2] [] [some (pm_r 20 0), u1, some (pm_i v2), some (pm_i v3)] (mm x R Z Y o A c G g))) rfl (g_ok (f := 20) (by decide) rfl)
set_option maxRecDepth 20000 in
theorem b92_63 (hR : RS R) {u1 : Option pm_V} {v2 : Int32} {v3 : Int32} {vs0 : Int32}   (k1 : vs0 = 0 → pW ns d 92 66 [some (pm_r 20 0), u1, some (pm_i v2), some (pm_i v3)] [] (mm x R Z Y o A c G g) Q) (k2 : ¬ (vs0 = 0) → pW ns d 92 69 [some (pm_r 20 0), u1, some (pm_i v2), some (pm_i v3)] [] (mm x R Z Y o A c G g) Q) : pW ns d 92 63 [some (pm_r 20 0), u1, some (pm_i v2), some (pm_i v3)] [pm_i vs0] (mm x R Z Y o A c G g) Q := by
  exact pW_if 1 (c := vs0 = 0) (fun call n => rfl) k1 k2
set_option maxRecDepth 20000 in
theorem b92_50 (hR : RS R) {u1 : Option pm_V} {v2 : Int32} {v3 : Int32} {vs0 : Int32}   (k1 : vs0 = 0 → pW ns d 92 53 [some (pm_r 20 0), u1, some (pm_i v2), some (pm_i v3)] [] (mm x R Z Y o A c G g) Q) (k2 : ¬ (vs0 = 0) → pW ns d 92 69 [some (pm_r 20 0), u1, some (pm_i v2), some (pm_i v3)] [] (mm x R Z Y o A c G g) Q) : pW ns d 92 50 [some (pm_r 20 0), u1, some (pm_i v2), some (pm_i v3)] [pm_i vs0] (mm x R Z Y o A c G g) Q := by
  exact pW_if 1 (c := vs0 = 0) (fun call n => rfl) k1 k2
set_option maxRecDepth 20000 in
theorem b92_66 (hR : RS R) {u0 : Option pm_V} {u1 : Option pm_V} {u2 : Option pm_V} {u3 : Option pm_V}   (k : Q (.inl (some (pm_i (-nI 8))), (mm x R Z Y o A c G g))) : pW ns d 92 66 [u0, u1, u2, u3] [] (mm x R Z Y o A c G g) Q := by
  refine pW_ret 2 (fun call n => ?_) k
  rfl
set_option maxRecDepth 20000 in
theorem b92_69 (hR : RS R) {u1 : Option pm_V} {v2 : Int32} {v3 : Int32}   (k1 : v2 < 0 → pW ns d 92 82 [some (pm_r 20 0), u1, some (pm_i v2), some (pm_i v3)] [] (mm x R Z Y o A c G g) Q) (k2 : ¬ (v2 < 0) → pW ns d 92 73 [some (pm_r 20 0), u1, some (pm_i v2), some (pm_i v3)] [] (mm x R Z Y o A c G g) Q) : pW ns d 92 69 [some (pm_r 20 0), u1, some (pm_i v2), some (pm_i v3)] [] (mm x R Z Y o A c G g) Q := by
  exact pW_if 2 (c := v2 < 0) (fun call n => rfl) k1 k2
set_option maxRecDepth 20000 in
theorem b92_53 (hR : RS R) {u0 : Option pm_V} {u1 : Option pm_V} {u2 : Option pm_V} {u3 : Option pm_V}   (k : Q (.inl (some (pm_i (-nI 8))), (mm x R Z Y o A c G g))) : pW ns d 92 53 [u0, u1, u2, u3] [] (mm x R Z Y o A c G g) Q := by
  refine pW_ret 3 (fun call n => ?_) k
  rfl
set_option maxRecDepth 20000 in
theorem b92_82 (hR : RS R) {u1 : Option pm_V} {v2 : Int32} {v3 : Int32}  {x2 : Nat} {o2 : Int64} {A2 : Nat → Nat → Nat → Int32} {c2 : Nat → Int64} {G2 : Nat → Nat → Int32} {g2 : Nat → Int64}  (hE : pE ns d 63 [pm_r 20 0, pm_i ((-nI 1) - v2), pm_i v3] (mm x R Z Y o A c G g) (.inl (none), (mm x2 R Z Y o2 A2 c2 G2 g2))) (k : pW ns d 92 90 [some (pm_r 20 0), u1, some (pm_i v2), some (pm_i v3)] [] (mm x2 R Z Y o2 A2 c2 G2 g2) Q) : pW ns d 92 82 [some (pm_r 20 0), u1, some (pm_i v2), some (pm_i v3)] [] (mm x R Z Y o A c G g) Q := by
  refine pW_call (pc' := 87) (r := []) (L' := [some (pm_r 20 0), u1, some (pm_i v2), some (pm_i v3)]) 6 (fun call n => ?_) hE k
  exact Eq.trans (b := pm_g (mm x R Z Y o A c G g) 20 0 (pm_cl call 92 (pm_go call ns d 92 n) 87 63 [pm_r 20 0, pm_i ((-nI 1) - v2), pm_i v3] [] [some (pm_r 20 0), u1, some (pm_i v2), some (pm_i v3)] (mm x R Z Y o A c G g))) rfl (g_ok (f := 20) (by decide) rfl)
set_option maxRecDepth 20000 in
theorem b92_73 (hR : RS R) {u1 : Option pm_V} {v2 : Int32} {v3 : Int32}  {x2 : Nat} {o2 : Int64} {A2 : Nat → Nat → Nat → Int32} {c2 : Nat → Int64} {G2 : Nat → Nat → Int32} {g2 : Nat → Int64}  (hE : pE ns d 62 [pm_r 20 0, pm_i v2, pm_i v3] (mm x R Z Y o A c G g) (.inl (none), (mm x2 R Z Y o2 A2 c2 G2 g2))) (k : pW ns d 92 79 [some (pm_r 20 0), u1, some (pm_i v2), some (pm_i v3)] [] (mm x2 R Z Y o2 A2 c2 G2 g2) Q) : pW ns d 92 73 [some (pm_r 20 0), u1, some (pm_i v2), some (pm_i v3)] [] (mm x R Z Y o A c G g) Q := by
  refine pW_call (pc' := 76) (r := []) (L' := [some (pm_r 20 0), u1, some (pm_i v2), some (pm_i v3)]) 4 (fun call n => ?_) hE k
  exact Eq.trans (b := pm_g (mm x R Z Y o A c G g) 20 0 (pm_cl call 92 (pm_go call ns d 92 n) 76 62 [pm_r 20 0, pm_i v2, pm_i v3] [] [some (pm_r 20 0), u1, some (pm_i v2), some (pm_i v3)] (mm x R Z Y o A c G g))) rfl (g_ok (f := 20) (by decide) rfl)
set_option maxRecDepth 20000 in
theorem b92_90 (hR : RS R) {u1 : Option pm_V} {u2 : Option pm_V} {u3 : Option pm_V}  {x2 : Nat} {o2 : Int64} {A2 : Nat → Nat → Nat → Int32} {c2 : Nat → Int64} {G2 : Nat → Nat → Int32} {g2 : Nat → Int64}  (hE : pE ns d 72 [pm_r 20 0] (mm x R Z Y o A c G g) (.inl (none), (mm x2 R Z Y o2 A2 c2 G2 g2))) (k : pW ns d 92 94 [some (pm_r 20 0), u1, u2, u3] [] (mm x2 R Z Y o2 A2 c2 G2 g2) Q) : pW ns d 92 90 [some (pm_r 20 0), u1, u2, u3] [] (mm x R Z Y o A c G g) Q := by
  refine pW_call (pc' := 91) (r := []) (L' := [some (pm_r 20 0), u1, u2, u3]) 2 (fun call n => ?_) hE k
  exact Eq.trans (b := pm_g (mm x R Z Y o A c G g) 20 0 (pm_cl call 92 (pm_go call ns d 92 n) 91 72 [pm_r 20 0] [] [some (pm_r 20 0), u1, u2, u3] (mm x R Z Y o A c G g))) rfl (g_ok (f := 20) (by decide) rfl)
set_option maxRecDepth 20000 in
theorem b92_79 (hR : RS R) {u1 : Option pm_V} {u2 : Option pm_V} {u3 : Option pm_V}  {x2 : Nat} {o2 : Int64} {A2 : Nat → Nat → Nat → Int32} {c2 : Nat → Int64} {G2 : Nat → Nat → Int32} {g2 : Nat → Int64}  (hE : pE ns d 72 [pm_r 20 0] (mm x R Z Y o A c G g) (.inl (none), (mm x2 R Z Y o2 A2 c2 G2 g2))) (k : pW ns d 92 94 [some (pm_r 20 0), u1, u2, u3] [] (mm x2 R Z Y o2 A2 c2 G2 g2) Q) : pW ns d 92 79 [some (pm_r 20 0), u1, u2, u3] [] (mm x R Z Y o A c G g) Q := by
  refine pW_call (pc' := 91) (r := []) (L' := [some (pm_r 20 0), u1, u2, u3]) 3 (fun call n => ?_) hE k
  exact Eq.trans (b := pm_g (mm x R Z Y o A c G g) 20 0 (pm_cl call 92 (pm_go call ns d 92 n) 91 72 [pm_r 20 0] [] [some (pm_r 20 0), u1, u2, u3] (mm x R Z Y o A c G g))) rfl (g_ok (f := 20) (by decide) rfl)
set_option maxRecDepth 20000 in
theorem b92_94 (hR : RS R) {u0 : Option pm_V} {u1 : Option pm_V} {u2 : Option pm_V} {u3 : Option pm_V}   (k : Q (.inl (some (pm_i (nI 0))), (mm x R Z Y o A c G g))) : pW ns d 92 94 [u0, u1, u2, u3] [] (mm x R Z Y o A c G g) Q := by
  refine pW_ret 2 (fun call n => ?_) k
  rfl
set_option maxRecDepth 20000 in
theorem t92_6 (hR : RS R) {u1 : Option pm_V} {v2 : Int32} {v3 : Int32} {vs0 : Int32}  (k1 : (vs0 = 0) → Q (.inl (some (pm_i (nI 0))), (mm x R Z Y o A c G g))) (k2 : (¬ (vs0 = 0)) → (v3 < nI 1) → Q (.inl (some (pm_i (nI 0))), (mm x R Z Y o A c (pm_v G 20 0 (nI 1)) g))) (k3 : (¬ (vs0 = 0)) → (¬ (v3 < nI 1)) → (nI 8 < v3) → Q (.inl (some (pm_i (nI 0))), (mm x R Z Y o A c (pm_v G 20 0 (nI 1)) g))) (k4 : (¬ (vs0 = 0)) → (¬ (v3 < nI 1)) → (¬ (nI 8 < v3)) → (v2 < -nI 8) → Q (.inl (some (pm_i (nI 0))), (mm x R Z Y o A c (pm_v G 20 0 (nI 1)) g))) (k5 : (¬ (vs0 = 0)) → (¬ (v3 < nI 1)) → (¬ (nI 8 < v3)) → (¬ (v2 < -nI 8)) → (v2 ≤ nI 7) → (v2 < 0) → pW ns d 92 56 [some (pm_r 20 0), u1, some (pm_i v2), some (pm_i v3)] [] (mm x R Z Y o A c G g) Q) (k6 : (¬ (vs0 = 0)) → (¬ (v3 < nI 1)) → (¬ (nI 8 < v3)) → (¬ (v2 < -nI 8)) → (v2 ≤ nI 7) → (¬ (v2 < 0)) → pW ns d 92 45 [some (pm_r 20 0), u1, some (pm_i v2), some (pm_i v3)] [] (mm x R Z Y o A c G g) Q) (k7 : (¬ (vs0 = 0)) → (¬ (v3 < nI 1)) → (¬ (nI 8 < v3)) → (¬ (v2 < -nI 8)) → (¬ (v2 ≤ nI 7)) → Q (.inl (some (pm_i (nI 0))), (mm x R Z Y o A c (pm_v G 20 0 (nI 1)) g))) : pW ns d 92 6 [some (pm_r 20 0), u1, some (pm_i v2), some (pm_i v3)] [pm_i vs0] (mm x R Z Y o A c G g) Q := by
  refine b92_6 hR  (fun h1 => ?_) (fun h1 => ?_)
  · skip
    exact b92_9 hR   (k1 h1)
  · skip
    refine b92_11 hR   (fun h2 => ?_) (fun h2 => ?_)
    · skip
      exact b92_34 hR   (k2 h1 h2)
    · skip
      refine b92_16 hR   (fun h3 => ?_) (fun h3 => ?_)
      · skip
        exact b92_34 hR   (k3 h1 h2 h3)
      · skip
        refine b92_22 hR   (fun h4 => ?_) (fun h4 => ?_)
        · skip
          exact b92_34 hR   (k4 h1 h2 h3 h4)
        · skip
          refine b92_28 hR   (fun h5 => ?_) (fun h5 => ?_)
          · skip
            refine b92_41 hR   (fun h6 => ?_) (fun h6 => ?_)
            · skip
              exact (k5 h1 h2 h3 h4 h5 h6)
            · skip
              exact (k6 h1 h2 h3 h4 h5 h6)
          · skip
            exact b92_34 hR   (k7 h1 h2 h3 h4 h5)
set_option maxRecDepth 20000 in
theorem t92_11 (hR : RS R) {u1 : Option pm_V} {v2 : Int32} {v3 : Int32}  (k1 : (v3 < nI 1) → Q (.inl (some (pm_i (nI 0))), (mm x R Z Y o A c (pm_v G 20 0 (nI 1)) g))) (k2 : (¬ (v3 < nI 1)) → (nI 8 < v3) → Q (.inl (some (pm_i (nI 0))), (mm x R Z Y o A c (pm_v G 20 0 (nI 1)) g))) (k3 : (¬ (v3 < nI 1)) → (¬ (nI 8 < v3)) → (v2 < -nI 8) → Q (.inl (some (pm_i (nI 0))), (mm x R Z Y o A c (pm_v G 20 0 (nI 1)) g))) (k4 : (¬ (v3 < nI 1)) → (¬ (nI 8 < v3)) → (¬ (v2 < -nI 8)) → (v2 ≤ nI 7) → (v2 < 0) → pW ns d 92 56 [some (pm_r 20 0), u1, some (pm_i v2), some (pm_i v3)] [] (mm x R Z Y o A c G g) Q) (k5 : (¬ (v3 < nI 1)) → (¬ (nI 8 < v3)) → (¬ (v2 < -nI 8)) → (v2 ≤ nI 7) → (¬ (v2 < 0)) → pW ns d 92 45 [some (pm_r 20 0), u1, some (pm_i v2), some (pm_i v3)] [] (mm x R Z Y o A c G g) Q) (k6 : (¬ (v3 < nI 1)) → (¬ (nI 8 < v3)) → (¬ (v2 < -nI 8)) → (¬ (v2 ≤ nI 7)) → Q (.inl (some (pm_i (nI 0))), (mm x R Z Y o A c (pm_v G 20 0 (nI 1)) g))) : pW ns d 92 11 [some (pm_r 20 0), u1, some (pm_i v2), some (pm_i v3)] [] (mm x R Z Y o A c G g) Q := by
  refine b92_11 hR  (fun h1 => ?_) (fun h1 => ?_)
  · skip
    exact b92_34 hR   (k1 h1)
  · skip
    refine b92_16 hR   (fun h2 => ?_) (fun h2 => ?_)
    · skip
      exact b92_34 hR   (k2 h1 h2)
    · skip
      refine b92_22 hR   (fun h3 => ?_) (fun h3 => ?_)
      · skip
        exact b92_34 hR   (k3 h1 h2 h3)
      · skip
        refine b92_28 hR   (fun h4 => ?_) (fun h4 => ?_)
        · skip
          refine b92_41 hR   (fun h5 => ?_) (fun h5 => ?_)
          · skip
            exact (k4 h1 h2 h3 h4 h5)
          · skip
            exact (k5 h1 h2 h3 h4 h5)
        · skip
          exact b92_34 hR   (k6 h1 h2 h3 h4)
set_option maxRecDepth 20000 in
theorem t92_16 (hR : RS R) {u1 : Option pm_V} {v2 : Int32} {v3 : Int32}  (k1 : (nI 8 < v3) → Q (.inl (some (pm_i (nI 0))), (mm x R Z Y o A c (pm_v G 20 0 (nI 1)) g))) (k2 : (¬ (nI 8 < v3)) → (v2 < -nI 8) → Q (.inl (some (pm_i (nI 0))), (mm x R Z Y o A c (pm_v G 20 0 (nI 1)) g))) (k3 : (¬ (nI 8 < v3)) → (¬ (v2 < -nI 8)) → (v2 ≤ nI 7) → (v2 < 0) → pW ns d 92 56 [some (pm_r 20 0), u1, some (pm_i v2), some (pm_i v3)] [] (mm x R Z Y o A c G g) Q) (k4 : (¬ (nI 8 < v3)) → (¬ (v2 < -nI 8)) → (v2 ≤ nI 7) → (¬ (v2 < 0)) → pW ns d 92 45 [some (pm_r 20 0), u1, some (pm_i v2), some (pm_i v3)] [] (mm x R Z Y o A c G g) Q) (k5 : (¬ (nI 8 < v3)) → (¬ (v2 < -nI 8)) → (¬ (v2 ≤ nI 7)) → Q (.inl (some (pm_i (nI 0))), (mm x R Z Y o A c (pm_v G 20 0 (nI 1)) g))) : pW ns d 92 16 [some (pm_r 20 0), u1, some (pm_i v2), some (pm_i v3)] [] (mm x R Z Y o A c G g) Q := by
  refine b92_16 hR  (fun h1 => ?_) (fun h1 => ?_)
  · skip
    exact b92_34 hR   (k1 h1)
  · skip
    refine b92_22 hR   (fun h2 => ?_) (fun h2 => ?_)
    · skip
      exact b92_34 hR   (k2 h1 h2)
    · skip
      refine b92_28 hR   (fun h3 => ?_) (fun h3 => ?_)
      · skip
        refine b92_41 hR   (fun h4 => ?_) (fun h4 => ?_)
        · skip
          exact (k3 h1 h2 h3 h4)
        · skip
          exact (k4 h1 h2 h3 h4)
      · skip
        exact b92_34 hR   (k5 h1 h2 h3)
set_option maxRecDepth 20000 in
theorem t92_22 (hR : RS R) {u1 : Option pm_V} {v2 : Int32} {v3 : Int32}  (k1 : (v2 < -nI 8) → Q (.inl (some (pm_i (nI 0))), (mm x R Z Y o A c (pm_v G 20 0 (nI 1)) g))) (k2 : (¬ (v2 < -nI 8)) → (v2 ≤ nI 7) → (v2 < 0) → pW ns d 92 56 [some (pm_r 20 0), u1, some (pm_i v2), some (pm_i v3)] [] (mm x R Z Y o A c G g) Q) (k3 : (¬ (v2 < -nI 8)) → (v2 ≤ nI 7) → (¬ (v2 < 0)) → pW ns d 92 45 [some (pm_r 20 0), u1, some (pm_i v2), some (pm_i v3)] [] (mm x R Z Y o A c G g) Q) (k4 : (¬ (v2 < -nI 8)) → (¬ (v2 ≤ nI 7)) → Q (.inl (some (pm_i (nI 0))), (mm x R Z Y o A c (pm_v G 20 0 (nI 1)) g))) : pW ns d 92 22 [some (pm_r 20 0), u1, some (pm_i v2), some (pm_i v3)] [] (mm x R Z Y o A c G g) Q := by
  refine b92_22 hR  (fun h1 => ?_) (fun h1 => ?_)
  · skip
    exact b92_34 hR   (k1 h1)
  · skip
    refine b92_28 hR   (fun h2 => ?_) (fun h2 => ?_)
    · skip
      refine b92_41 hR   (fun h3 => ?_) (fun h3 => ?_)
      · skip
        exact (k2 h1 h2 h3)
      · skip
        exact (k3 h1 h2 h3)
    · skip
      exact b92_34 hR   (k4 h1 h2)
set_option maxRecDepth 20000 in
theorem t92_28 (hR : RS R) {u1 : Option pm_V} {v2 : Int32} {v3 : Int32}  (k1 : (v2 ≤ nI 7) → (v2 < 0) → pW ns d 92 56 [some (pm_r 20 0), u1, some (pm_i v2), some (pm_i v3)] [] (mm x R Z Y o A c G g) Q) (k2 : (v2 ≤ nI 7) → (¬ (v2 < 0)) → pW ns d 92 45 [some (pm_r 20 0), u1, some (pm_i v2), some (pm_i v3)] [] (mm x R Z Y o A c G g) Q) (k3 : (¬ (v2 ≤ nI 7)) → Q (.inl (some (pm_i (nI 0))), (mm x R Z Y o A c (pm_v G 20 0 (nI 1)) g))) : pW ns d 92 28 [some (pm_r 20 0), u1, some (pm_i v2), some (pm_i v3)] [] (mm x R Z Y o A c G g) Q := by
  refine b92_28 hR  (fun h1 => ?_) (fun h1 => ?_)
  · skip
    refine b92_41 hR   (fun h2 => ?_) (fun h2 => ?_)
    · skip
      exact (k1 h1 h2)
    · skip
      exact (k2 h1 h2)
  · skip
    exact b92_34 hR   (k3 h1)
set_option maxRecDepth 20000 in
theorem t92_41 (hR : RS R) {u1 : Option pm_V} {v2 : Int32} {v3 : Int32}  (k1 : (v2 < 0) → pW ns d 92 56 [some (pm_r 20 0), u1, some (pm_i v2), some (pm_i v3)] [] (mm x R Z Y o A c G g) Q) (k2 : (¬ (v2 < 0)) → pW ns d 92 45 [some (pm_r 20 0), u1, some (pm_i v2), some (pm_i v3)] [] (mm x R Z Y o A c G g) Q) : pW ns d 92 41 [some (pm_r 20 0), u1, some (pm_i v2), some (pm_i v3)] [] (mm x R Z Y o A c G g) Q := by
  refine b92_41 hR  (fun h1 => ?_) (fun h1 => ?_)
  · skip
    exact (k1 h1)
  · skip
    exact (k2 h1)
set_option maxRecDepth 20000 in
theorem t92_63 (hR : RS R) {u1 : Option pm_V} {v2 : Int32} {v3 : Int32} {vs0 : Int32}  (k1 : (vs0 = 0) → Q (.inl (some (pm_i (-nI 8))), (mm x R Z Y o A c G g))) (k2 : (¬ (vs0 = 0)) → (v2 < 0) → pW ns d 92 82 [some (pm_r 20 0), u1, some (pm_i v2), some (pm_i v3)] [] (mm x R Z Y o A c G g) Q) (k3 : (¬ (vs0 = 0)) → (¬ (v2 < 0)) → pW ns d 92 73 [some (pm_r 20 0), u1, some (pm_i v2), some (pm_i v3)] [] (mm x R Z Y o A c G g) Q) : pW ns d 92 63 [some (pm_r 20 0), u1, some (pm_i v2), some (pm_i v3)] [pm_i vs0] (mm x R Z Y o A c G g) Q := by
  refine b92_63 hR  (fun h1 => ?_) (fun h1 => ?_)
  · skip
    exact b92_66 hR   (k1 h1)
  · skip
    refine b92_69 hR   (fun h2 => ?_) (fun h2 => ?_)
    · skip
      exact (k2 h1 h2)
    · skip
      exact (k3 h1 h2)
set_option maxRecDepth 20000 in
theorem t92_50 (hR : RS R) {u1 : Option pm_V} {v2 : Int32} {v3 : Int32} {vs0 : Int32}  (k1 : (vs0 = 0) → Q (.inl (some (pm_i (-nI 8))), (mm x R Z Y o A c G g))) (k2 : (¬ (vs0 = 0)) → (v2 < 0) → pW ns d 92 82 [some (pm_r 20 0), u1, some (pm_i v2), some (pm_i v3)] [] (mm x R Z Y o A c G g) Q) (k3 : (¬ (vs0 = 0)) → (¬ (v2 < 0)) → pW ns d 92 73 [some (pm_r 20 0), u1, some (pm_i v2), some (pm_i v3)] [] (mm x R Z Y o A c G g) Q) : pW ns d 92 50 [some (pm_r 20 0), u1, some (pm_i v2), some (pm_i v3)] [pm_i vs0] (mm x R Z Y o A c G g) Q := by
  refine b92_50 hR  (fun h1 => ?_) (fun h1 => ?_)
  · skip
    exact b92_53 hR   (k1 h1)
  · skip
    refine b92_69 hR   (fun h2 => ?_) (fun h2 => ?_)
    · skip
      exact (k2 h1 h2)
    · skip
      exact (k3 h1 h2)
set_option maxRecDepth 20000 in
theorem t92_69 (hR : RS R) {u1 : Option pm_V} {v2 : Int32} {v3 : Int32}  (k1 : (v2 < 0) → pW ns d 92 82 [some (pm_r 20 0), u1, some (pm_i v2), some (pm_i v3)] [] (mm x R Z Y o A c G g) Q) (k2 : (¬ (v2 < 0)) → pW ns d 92 73 [some (pm_r 20 0), u1, some (pm_i v2), some (pm_i v3)] [] (mm x R Z Y o A c G g) Q) : pW ns d 92 69 [some (pm_r 20 0), u1, some (pm_i v2), some (pm_i v3)] [] (mm x R Z Y o A c G g) Q := by
  refine b92_69 hR  (fun h1 => ?_) (fun h1 => ?_)
  · skip
    exact (k1 h1)
  · skip
    exact (k2 h1)
/-! 93 JobLayerModel.action -/
set_option maxRecDepth 20000 in
theorem b93_0 (hR : RS R) {v1 : Int32} {v2 : Int32} {v3 : Int32} {u4 : Option pm_V}  {x2 : Nat} {o2 : Int64} {A2 : Nat → Nat → Nat → Int32} {c2 : Nat → Int64} {G2 : Nat → Nat → Int32} {g2 : Nat → Int64} {y : Int32} (hE : pE ns d 81 [pm_r 20 0, pm_i v1, pm_i (nI 2)] (mm x R Z Y o A c G g) (.inl (some (pm_i y)), (mm x2 R Z Y o2 A2 c2 G2 g2))) (k : pW ns d 93 6 [some (pm_r 20 0), some (pm_i v1), some (pm_i v2), some (pm_i v3), u4] [pm_i y] (mm x2 R Z Y o2 A2 c2 G2 g2) Q) : pW ns d 93 0 [some (pm_r 20 0), some (pm_i v1), some (pm_i v2), some (pm_i v3), u4] [] (mm x R Z Y o A c G g) Q := by
  refine pW_call (pc' := 3) (r := []) (L' := [some (pm_r 20 0), some (pm_i v1), some (pm_i v2), some (pm_i v3), u4]) 4 (fun call n => ?_) hE k
  exact Eq.trans (b := pm_g (mm x R Z Y o A c G g) 20 0 (pm_cl call 93 (pm_go call ns d 93 n) 3 81 [pm_r 20 0, pm_i v1, pm_i (nI 2)] [] [some (pm_r 20 0), some (pm_i v1), some (pm_i v2), some (pm_i v3), u4] (mm x R Z Y o A c G g))) rfl (g_ok (f := 20) (by decide) rfl)
set_option maxRecDepth 20000 in
theorem b93_6 (hR : RS R) {v1 : Int32} {v2 : Int32} {v3 : Int32} {u4 : Option pm_V} {vs0 : Int32}   (k1 : vs0 = 0 → pW ns d 93 9 [some (pm_r 20 0), some (pm_i v1), some (pm_i v2), some (pm_i v3), u4] [] (mm x R Z Y o A c G g) Q) (k2 : ¬ (vs0 = 0) → pW ns d 93 11 [some (pm_r 20 0), some (pm_i v1), some (pm_i v2), some (pm_i v3), u4] [] (mm x R Z Y o A c G g) Q) : pW ns d 93 6 [some (pm_r 20 0), some (pm_i v1), some (pm_i v2), some (pm_i v3), u4] [pm_i vs0] (mm x R Z Y o A c G g) Q := by
  exact pW_if 1 (c := vs0 = 0) (fun call n => rfl) k1 k2
set_option maxRecDepth 20000 in
theorem b93_9 (hR : RS R) {u0 : Option pm_V} {u1 : Option pm_V} {u2 : Option pm_V} {u3 : Option pm_V} {u4 : Option pm_V}   (k : Q (.inl (some (pm_i (nI 0))), (mm x R Z Y o A c G g))) : pW ns d 93 9 [u0, u1, u2, u3, u4] [] (mm x R Z Y o A c G g) Q := by
  refine pW_ret 2 (fun call n => ?_) k
  rfl
set_option maxRecDepth 20000 in
theorem b93_11 (hR : RS R) {v1 : Int32} {v2 : Int32} {v3 : Int32} {u4 : Option pm_V}   (k1 : v2 < nI 1 → pW ns d 93 31 [some (pm_r 20 0), some (pm_i v1), some (pm_i v2), some (pm_i v3), u4] [] (mm x R Z Y o A c G g) Q) (k2 : ¬ (v2 < nI 1) → pW ns d 93 16 [some (pm_r 20 0), some (pm_i v1), some (pm_i v2), some (pm_i v3), u4] [] (mm x R Z Y o A c G g) Q) : pW ns d 93 11 [some (pm_r 20 0), some (pm_i v1), some (pm_i v2), some (pm_i v3), u4] [] (mm x R Z Y o A c G g) Q := by
  exact pW_if 3 (c := v2 < nI 1) (fun call n => rfl) k1 k2
set_option maxRecDepth 20000 in
theorem b93_31 (hR : RS R) {u1 : Option pm_V} {u2 : Option pm_V} {u3 : Option pm_V} {u4 : Option pm_V}   (k : Q (.inl (some (pm_i (nI 0))), (mm x R Z Y o A c (pm_v G 20 0 (nI 1)) g))) : pW ns d 93 31 [some (pm_r 20 0), u1, u2, u3, u4] [] (mm x R Z Y o A c G g) Q := by
  refine pW_eq 3 (pc' := 36) (L' := [some (pm_r 20 0), u1, u2, u3, u4]) (S' := []) (M' := (mm x R Z Y o A c (pm_v G 20 0 (nI 1)) g)) (fun call n => ?_) ?_
  · refine Eq.trans (b := pm_g (mm x R Z Y o A c G g) 20 0 (pm_go call ns d 93 n 36 [some (pm_r 20 0), u1, u2, u3, u4] [] (pm_u (mA Z A G) 20 0 0 (nI 1), mB Y o c g, R, pm_tot, x))) rfl ?_
    refine (g_ok (f := 20) (by decide) rfl).trans ?_
    exact (congrArg (fun z => pm_go call ns d 93 n 36 [some (pm_r 20 0), u1, u2, u3, u4] [] (z, mB Y o c g, R, pm_tot, x)) (uG (by decide)))
  refine pW_ret 2 (fun call n => ?_) k
  rfl
set_option maxRecDepth 20000 in
theorem b93_16 (hR : RS R) {v1 : Int32} {v2 : Int32} {v3 : Int32} {u4 : Option pm_V}   (k1 : nI 7 < v2 → pW ns d 93 31 [some (pm_r 20 0), some (pm_i v1), some (pm_i v2), some (pm_i v3), u4] [] (mm x R Z Y o A c G g) Q) (k2 : ¬ (nI 7 < v2) → pW ns d 93 22 [some (pm_r 20 0), some (pm_i v1), some (pm_i v2), some (pm_i v3), u4] [] (mm x R Z Y o A c G g) Q) : pW ns d 93 16 [some (pm_r 20 0), some (pm_i v1), some (pm_i v2), some (pm_i v3), u4] [] (mm x R Z Y o A c G g) Q := by
  exact pW_if 3 (c := nI 7 < v2) (fun call n => rfl) k1 k2
set_option maxRecDepth 20000 in
theorem b93_22 (hR : RS R) {v1 : Int32} {v2 : Int32} {v3 : Int32} {u4 : Option pm_V}   (k1 : v3 < 0 → pW ns d 93 31 [some (pm_r 20 0), some (pm_i v1), some (pm_i v2), some (pm_i v3), u4] [] (mm x R Z Y o A c G g) Q) (k2 : ¬ (v3 < 0) → pW ns d 93 26 [some (pm_r 20 0), some (pm_i v1), some (pm_i v2), some (pm_i v3), u4] [] (mm x R Z Y o A c G g) Q) : pW ns d 93 22 [some (pm_r 20 0), some (pm_i v1), some (pm_i v2), some (pm_i v3), u4] [] (mm x R Z Y o A c G g) Q := by
  exact pW_if 2 (c := v3 < 0) (fun call n => rfl) k1 k2
set_option maxRecDepth 20000 in
theorem b93_26 (hR : RS R) {v1 : Int32} {v2 : Int32} {v3 : Int32} {u4 : Option pm_V}   (k1 : v3 ≤ nI 2 → pW ns d 93 38 [some (pm_r 20 0), some (pm_i v1), some (pm_i v2), some (pm_i v3), u4] [] (mm x R Z Y o A c G g) Q) (k2 : ¬ (v3 ≤ nI 2) → pW ns d 93 31 [some (pm_r 20 0), some (pm_i v1), some (pm_i v2), some (pm_i v3), u4] [] (mm x R Z Y o A c G g) Q) : pW ns d 93 26 [some (pm_r 20 0), some (pm_i v1), some (pm_i v2), some (pm_i v3), u4] [] (mm x R Z Y o A c G g) Q := by
  exact pW_if 3 (c := v3 ≤ nI 2) (fun call n => rfl) k1 k2
set_option maxRecDepth 20000 in
theorem b93_38 (hR : RS R) {v1 : Int32} {v2 : Int32} {v3 : Int32} {u4 : Option pm_V} {j1 : Nat} (e1 : ((nI 8) * v1) + v2 = nI j1) (l1 : j1 < 64)  (k1 : v3 = nI 1 → pW ns d 93 68 [some (pm_r 20 0), some (pm_i v1), some (pm_i v2), some (pm_i v3), some (pm_i (G 33 j1))] [] (mm x R Z Y o A c (pm_v G 33 j1 v3) g) Q) (k2 : ¬ (v3 = nI 1) → pW ns d 93 86 [some (pm_r 20 0), some (pm_i v1), some (pm_i v2), some (pm_i v3), some (pm_i (G 33 j1))] [] (mm x R Z Y o A c (pm_v G 33 j1 v3) g) Q) : pW ns d 93 38 [some (pm_r 20 0), some (pm_i v1), some (pm_i v2), some (pm_i v3), u4] [] (mm x R Z Y o A c G g) Q := by
  refine pW_eq 2 (pc' := 42) (L' := [some (pm_r 20 0), some (pm_i v1), some (pm_i v2), some (pm_i v3), u4]) (S' := [pm_r 33 0]) (M' := (mm x R Z Y o A c G g)) (fun call n => ?_) ?_
  · refine Eq.trans (b := pm_g (mm x R Z Y o A c G g) 20 0 (pm_go call ns d 93 n 42 [some (pm_r 20 0), some (pm_i v1), some (pm_i v2), some (pm_i v3), u4] [pm_a (R 20 0 13)] (mm x R Z Y o A c G g))) rfl ?_
    refine (g_ok (f := 20) (by decide) rfl).trans ?_
    exact (congrArg (fun z => pm_go call ns d 93 n 42 [some (pm_r 20 0), some (pm_i v1), some (pm_i v2), some (pm_i v3), u4] [pm_a z] (mm x R Z Y o A c G g)) (rs_20_13 hR))
  refine pW_eq 6 (pc' := 49) (L' := [some (pm_r 20 0), some (pm_i v1), some (pm_i v2), some (pm_i v3), u4]) (S' := [pm_i (G 33 j1)]) (M' := (mm x R Z Y o A c G g)) (fun call n => ?_) ?_
  · refine Eq.trans (b := pm_g (mm x R Z Y o A c G g) 33 0 (pm_ix (((nI 8) * v1) + v2) 64 (fun jx => pm_go call ns d 93 n 49 [some (pm_r 20 0), some (pm_i v1), some (pm_i v2), some (pm_i v3), u4] [pm_i (G 33 jx)] (mm x R Z Y o A c G g)))) rfl ?_
    refine (g_ok (f := 33) (by decide) rfl).trans ?_
    refine (ix_ok (j := j1) e1 l1 (by decide)).trans ?_
    rfl
  refine pW_eq 3 (pc' := 55) (L' := [some (pm_r 20 0), some (pm_i v1), some (pm_i v2), some (pm_i v3), some (pm_i (G 33 j1))]) (S' := [pm_r 33 0]) (M' := (mm x R Z Y o A c G g)) (fun call n => ?_) ?_
  · refine Eq.trans (b := pm_g (mm x R Z Y o A c G g) 20 0 (pm_go call ns d 93 n 55 [some (pm_r 20 0), some (pm_i v1), some (pm_i v2), some (pm_i v3), some (pm_i (G 33 j1))] [pm_a (R 20 0 13)] (mm x R Z Y o A c G g))) rfl ?_
    refine (g_ok (f := 20) (by decide) rfl).trans ?_
    exact (congrArg (fun z => pm_go call ns d 93 n 55 [some (pm_r 20 0), some (pm_i v1), some (pm_i v2), some (pm_i v3), some (pm_i (G 33 j1))] [pm_a z] (mm x R Z Y o A c G g)) (rs_20_13 hR))
  refine pW_eq 7 (pc' := 63) (L' := [some (pm_r 20 0), some (pm_i v1), some (pm_i v2), some (pm_i v3), some (pm_i (G 33 j1))]) (S' := []) (M' := (mm x R Z Y o A c (pm_v G 33 j1 v3) g)) (fun call n => ?_) ?_
  · refine Eq.trans (b := pm_g (mm x R Z Y o A c G g) 33 0 (pm_ix (((nI 8) * v1) + v2) 64 (fun jx => pm_go call ns d 93 n 63 [some (pm_r 20 0), some (pm_i v1), some (pm_i v2), some (pm_i v3), some (pm_i (G 33 j1))] [] (pm_u (mA Z A G) 33 0 jx v3, mB Y o c g, R, pm_tot, x)))) rfl ?_
    refine (g_ok (f := 33) (by decide) rfl).trans ?_
    refine (ix_ok (j := j1) e1 l1 (by decide)).trans ?_
    exact (congrArg (fun z => pm_go call ns d 93 n 63 [some (pm_r 20 0), some (pm_i v1), some (pm_i v2), some (pm_i v3), some (pm_i (G 33 j1))] [] (z, mB Y o c g, R, pm_tot, x)) (uG (by decide)))
  exact pW_if 3 (c := v3 = nI 1) (fun call n => rfl) k1 k2
set_option maxRecDepth 20000 in
theorem b93_68 (hR : RS R) {v1 : Int32} {v2 : Int32} {u3 : Option pm_V} {v4 : Int32} {j1 : Nat} (e1 : v1 = nI j1) (l1 : j1 < 8) {x2 : Nat} {o2 : Int64} {A2 : Nat → Nat → Nat → Int32} {c2 : Nat → Int64} {G2 : Nat → Nat → Int32} {g2 : Nat → Int64}  (hE : pE ns d 72 [pm_r 20 0] (mm x R Z Y o A c (pm_v G 25 j1 ((G 25 j1) &&& (((nI 1) <<< (v2 &&& 31)) ^^^ (-nI 1)))) g) (.inl (none), (mm x2 R Z Y o2 A2 c2 G2 g2))) (k : pW ns d 93 90 [some (pm_r 20 0), some (pm_i v1), some (pm_i v2), u3, some (pm_i v4)] [] (mm x2 R Z Y o2 A2 c2 G2 g2) Q) : pW ns d 93 68 [some (pm_r 20 0), some (pm_i v1), some (pm_i v2), u3, some (pm_i v4)] [] (mm x R Z Y o A c G g) Q := by
  refine pW_eq 2 (pc' := 72) (L' := [some (pm_r 20 0), some (pm_i v1), some (pm_i v2), u3, some (pm_i v4)]) (S' := [pm_r 25 0]) (M' := (mm x R Z Y o A c G g)) (fun call n => ?_) ?_
  · refine Eq.trans (b := pm_g (mm x R Z Y o A c G g) 20 0 (pm_go call ns d 93 n 72 [some (pm_r 20 0), some (pm_i v1), some (pm_i v2), u3, some (pm_i v4)] [pm_a (R 20 0 5)] (mm x R Z Y o A c G g))) rfl ?_
    refine (g_ok (f := 20) (by decide) rfl).trans ?_
    exact (congrArg (fun z => pm_go call ns d 93 n 72 [some (pm_r 20 0), some (pm_i v1), some (pm_i v2), u3, some (pm_i v4)] [pm_a z] (mm x R Z Y o A c G g)) (rs_20_5 hR))
  refine pW_eq 3 (pc' := 77) (L' := [some (pm_r 20 0), some (pm_i v1), some (pm_i v2), u3, some (pm_i v4)]) (S' := [pm_r 25 0, pm_i v1, pm_r 25 0]) (M' := (mm x R Z Y o A c G g)) (fun call n => ?_) ?_
  · refine Eq.trans (b := pm_g (mm x R Z Y o A c G g) 20 0 (pm_go call ns d 93 n 77 [some (pm_r 20 0), some (pm_i v1), some (pm_i v2), u3, some (pm_i v4)] [pm_a (R 20 0 5), pm_i v1, pm_r 25 0] (mm x R Z Y o A c G g))) rfl ?_
    refine (g_ok (f := 20) (by decide) rfl).trans ?_
    exact (congrArg (fun z => pm_go call ns d 93 n 77 [some (pm_r 20 0), some (pm_i v1), some (pm_i v2), u3, some (pm_i v4)] [pm_a z, pm_i v1, pm_r 25 0] (mm x R Z Y o A c G g)) (rs_20_5 hR))
  refine pW_eq 2 (pc' := 79) (L' := [some (pm_r 20 0), some (pm_i v1), some (pm_i v2), u3, some (pm_i v4)]) (S' := [pm_i (G 25 j1), pm_i v1, pm_r 25 0]) (M' := (mm x R Z Y o A c G g)) (fun call n => ?_) ?_
  · refine Eq.trans (b := pm_g (mm x R Z Y o A c G g) 25 0 (pm_ix (v1) 8 (fun jx => pm_go call ns d 93 n 79 [some (pm_r 20 0), some (pm_i v1), some (pm_i v2), u3, some (pm_i v4)] [pm_i (G 25 jx), pm_i v1, pm_r 25 0] (mm x R Z Y o A c G g)))) rfl ?_
    refine (g_ok (f := 25) (by decide) rfl).trans ?_
    refine (ix_ok (j := j1) e1 l1 (by decide)).trans ?_
    rfl
  refine pW_eq 7 (pc' := 86) (L' := [some (pm_r 20 0), some (pm_i v1), some (pm_i v2), u3, some (pm_i v4)]) (S' := []) (M' := (mm x R Z Y o A c (pm_v G 25 j1 ((G 25 j1) &&& (((nI 1) <<< (v2 &&& 31)) ^^^ (-nI 1)))) g)) (fun call n => ?_) ?_
  · refine Eq.trans (b := pm_g (mm x R Z Y o A c G g) 25 0 (pm_ix (v1) 8 (fun jx => pm_go call ns d 93 n 86 [some (pm_r 20 0), some (pm_i v1), some (pm_i v2), u3, some (pm_i v4)] [] (pm_u (mA Z A G) 25 0 jx ((G 25 j1) &&& (((nI 1) <<< (v2 &&& 31)) ^^^ (-nI 1))), mB Y o c g, R, pm_tot, x)))) rfl ?_
    refine (g_ok (f := 25) (by decide) rfl).trans ?_
    refine (ix_ok (j := j1) e1 l1 (by decide)).trans ?_
    exact (congrArg (fun z => pm_go call ns d 93 n 86 [some (pm_r 20 0), some (pm_i v1), some (pm_i v2), u3, some (pm_i v4)] [] (z, mB Y o c g, R, pm_tot, x)) (uG (by decide)))
  refine pW_call (pc' := 87) (r := []) (L' := [some (pm_r 20 0), some (pm_i v1), some (pm_i v2), u3, some (pm_i v4)]) 2 (fun call n => ?_) hE k
  exact Eq.trans (b := pm_g (mm x R Z Y o A c (pm_v G 25 j1 ((G 25 j1) &&& (((nI 1) <<< (v2 &&& 31)) ^^^ (-nI 1)))) g) 20 0 (pm_cl call 93 (pm_go call ns d 93 n) 87 72 [pm_r 20 0] [] [some (pm_r 20 0), some (pm_i v1), some (pm_i v2), u3, some (pm_i v4)] (mm x R Z Y o A c (pm_v G 25 j1 ((G 25 j1) &&& (((nI 1) <<< (v2 &&& 31)) ^^^ (-nI 1)))) g))) rfl (g_ok (f := 20) (by decide) rfl)
set_option maxRecDepth 20000 in
theorem b93_86 (hR : RS R) {u1 : Option pm_V} {u2 : Option pm_V} {u3 : Option pm_V} {v4 : Int32}  {x2 : Nat} {o2 : Int64} {A2 : Nat → Nat → Nat → Int32} {c2 : Nat → Int64} {G2 : Nat → Nat → Int32} {g2 : Nat → Int64}  (hE : pE ns d 72 [pm_r 20 0] (mm x R Z Y o A c G g) (.inl (none), (mm x2 R Z Y o2 A2 c2 G2 g2))) (k : pW ns d 93 90 [some (pm_r 20 0), u1, u2, u3, some (pm_i v4)] [] (mm x2 R Z Y o2 A2 c2 G2 g2) Q) : pW ns d 93 86 [some (pm_r 20 0), u1, u2, u3, some (pm_i v4)] [] (mm x R Z Y o A c G g) Q := by
  refine pW_call (pc' := 87) (r := []) (L' := [some (pm_r 20 0), u1, u2, u3, some (pm_i v4)]) 2 (fun call n => ?_) hE k
  exact Eq.trans (b := pm_g (mm x R Z Y o A c G g) 20 0 (pm_cl call 93 (pm_go call ns d 93 n) 87 72 [pm_r 20 0] [] [some (pm_r 20 0), u1, u2, u3, some (pm_i v4)] (mm x R Z Y o A c G g))) rfl (g_ok (f := 20) (by decide) rfl)
set_option maxRecDepth 20000 in
theorem b93_90 (hR : RS R) {u0 : Option pm_V} {u1 : Option pm_V} {u2 : Option pm_V} {u3 : Option pm_V} {v4 : Int32}   (k : Q (.inl (some (pm_i v4)), (mm x R Z Y o A c G g))) : pW ns d 93 90 [u0, u1, u2, u3, some (pm_i v4)] [] (mm x R Z Y o A c G g) Q := by
  refine pW_ret 2 (fun call n => ?_) k
  rfl
set_option maxRecDepth 20000 in
theorem t93_6 (hR : RS R) {v1 : Int32} {v2 : Int32} {v3 : Int32} {u4 : Option pm_V} {vs0 : Int32}  (k1 : (vs0 = 0) → Q (.inl (some (pm_i (nI 0))), (mm x R Z Y o A c G g))) (k2 : (¬ (vs0 = 0)) → (v2 < nI 1) → Q (.inl (some (pm_i (nI 0))), (mm x R Z Y o A c (pm_v G 20 0 (nI 1)) g))) (k3 : (¬ (vs0 = 0)) → (¬ (v2 < nI 1)) → (nI 7 < v2) → Q (.inl (some (pm_i (nI 0))), (mm x R Z Y o A c (pm_v G 20 0 (nI 1)) g))) (k4 : (¬ (vs0 = 0)) → (¬ (v2 < nI 1)) → (¬ (nI 7 < v2)) → (v3 < 0) → Q (.inl (some (pm_i (nI 0))), (mm x R Z Y o A c (pm_v G 20 0 (nI 1)) g))) (k5 : (¬ (vs0 = 0)) → (¬ (v2 < nI 1)) → (¬ (nI 7 < v2)) → (¬ (v3 < 0)) → (v3 ≤ nI 2) → pW ns d 93 38 [some (pm_r 20 0), some (pm_i v1), some (pm_i v2), some (pm_i v3), u4] [] (mm x R Z Y o A c G g) Q) (k6 : (¬ (vs0 = 0)) → (¬ (v2 < nI 1)) → (¬ (nI 7 < v2)) → (¬ (v3 < 0)) → (¬ (v3 ≤ nI 2)) → Q (.inl (some (pm_i (nI 0))), (mm x R Z Y o A c (pm_v G 20 0 (nI 1)) g))) : pW ns d 93 6 [some (pm_r 20 0), some (pm_i v1), some (pm_i v2), some (pm_i v3), u4] [pm_i vs0] (mm x R Z Y o A c G g) Q := by
  refine b93_6 hR  (fun h1 => ?_) (fun h1 => ?_)
  · skip
    exact b93_9 hR   (k1 h1)
  · skip
    refine b93_11 hR   (fun h2 => ?_) (fun h2 => ?_)
    · skip
      exact b93_31 hR   (k2 h1 h2)
    · skip
      refine b93_16 hR   (fun h3 => ?_) (fun h3 => ?_)
      · skip
        exact b93_31 hR   (k3 h1 h2 h3)
      · skip
        refine b93_22 hR   (fun h4 => ?_) (fun h4 => ?_)
        · skip
          exact b93_31 hR   (k4 h1 h2 h3 h4)
        · skip
          refine b93_26 hR   (fun h5 => ?_) (fun h5 => ?_)
          · skip
            exact (k5 h1 h2 h3 h4 h5)
          · skip
            exact b93_31 hR   (k6 h1 h2 h3 h4 h5)
set_option maxRecDepth 20000 in
theorem t93_11 (hR : RS R) {v1 : Int32} {v2 : Int32} {v3 : Int32} {u4 : Option pm_V}  (k1 : (v2 < nI 1) → Q (.inl (some (pm_i (nI 0))), (mm x R Z Y o A c (pm_v G 20 0 (nI 1)) g))) (k2 : (¬ (v2 < nI 1)) → (nI 7 < v2) → Q (.inl (some (pm_i (nI 0))), (mm x R Z Y o A c (pm_v G 20 0 (nI 1)) g))) (k3 : (¬ (v2 < nI 1)) → (¬ (nI 7 < v2)) → (v3 < 0) → Q (.inl (some (pm_i (nI 0))), (mm x R Z Y o A c (pm_v G 20 0 (nI 1)) g))) (k4 : (¬ (v2 < nI 1)) → (¬ (nI 7 < v2)) → (¬ (v3 < 0)) → (v3 ≤ nI 2) → pW ns d 93 38 [some (pm_r 20 0), some (pm_i v1), some (pm_i v2), some (pm_i v3), u4] [] (mm x R Z Y o A c G g) Q) (k5 : (¬ (v2 < nI 1)) → (¬ (nI 7 < v2)) → (¬ (v3 < 0)) → (¬ (v3 ≤ nI 2)) → Q (.inl (some (pm_i (nI 0))), (mm x R Z Y o A c (pm_v G 20 0 (nI 1)) g))) : pW ns d 93 11 [some (pm_r 20 0), some (pm_i v1), some (pm_i v2), some (pm_i v3), u4] [] (mm x R Z Y o A c G g) Q := by
  refine b93_11 hR  (fun h1 => ?_) (fun h1 => ?_)
  · skip
    exact b93_31 hR   (k1 h1)
  · skip
    refine b93_16 hR   (fun h2 => ?_) (fun h2 => ?_)
    · skip
      exact b93_31 hR   (k2 h1 h2)
    · skip
      refine b93_22 hR   (fun h3 => ?_) (fun h3 => ?_)
      · skip
        exact b93_31 hR   (k3 h1 h2 h3)
      · skip
        refine b93_26 hR   (fun h4 => ?_) (fun h4 => ?_)
        · skip
          exact (k4 h1 h2 h3 h4)
        · skip
          exact b93_31 hR   (k5 h1 h2 h3 h4)
set_option maxRecDepth 20000 in
theorem t93_16 (hR : RS R) {v1 : Int32} {v2 : Int32} {v3 : Int32} {u4 : Option pm_V}  (k1 : (nI 7 < v2) → Q (.inl (some (pm_i (nI 0))), (mm x R Z Y o A c (pm_v G 20 0 (nI 1)) g))) (k2 : (¬ (nI 7 < v2)) → (v3 < 0) → Q (.inl (some (pm_i (nI 0))), (mm x R Z Y o A c (pm_v G 20 0 (nI 1)) g))) (k3 : (¬ (nI 7 < v2)) → (¬ (v3 < 0)) → (v3 ≤ nI 2) → pW ns d 93 38 [some (pm_r 20 0), some (pm_i v1), some (pm_i v2), some (pm_i v3), u4] [] (mm x R Z Y o A c G g) Q) (k4 : (¬ (nI 7 < v2)) → (¬ (v3 < 0)) → (¬ (v3 ≤ nI 2)) → Q (.inl (some (pm_i (nI 0))), (mm x R Z Y o A c (pm_v G 20 0 (nI 1)) g))) : pW ns d 93 16 [some (pm_r 20 0), some (pm_i v1), some (pm_i v2), some (pm_i v3), u4] [] (mm x R Z Y o A c G g) Q := by
  refine b93_16 hR  (fun h1 => ?_) (fun h1 => ?_)
  · skip
    exact b93_31 hR   (k1 h1)
  · skip
    refine b93_22 hR   (fun h2 => ?_) (fun h2 => ?_)
    · skip
      exact b93_31 hR   (k2 h1 h2)
    · skip
      refine b93_26 hR   (fun h3 => ?_) (fun h3 => ?_)
      · skip
        exact (k3 h1 h2 h3)
      · skip
        exact b93_31 hR   (k4 h1 h2 h3)
set_option maxRecDepth 20000 in
theorem t93_22 (hR : RS R) {v1 : Int32} {v2 : Int32} {v3 : Int32} {u4 : Option pm_V}  (k1 : (v3 < 0) → Q (.inl (some (pm_i (nI 0))), (mm x R Z Y o A c (pm_v G 20 0 (nI 1)) g))) (k2 : (¬ (v3 < 0)) → (v3 ≤ nI 2) → pW ns d 93 38 [some (pm_r 20 0), some (pm_i v1), some (pm_i v2), some (pm_i v3), u4] [] (mm x R Z Y o A c G g) Q) (k3 : (¬ (v3 < 0)) → (¬ (v3 ≤ nI 2)) → Q (.inl (some (pm_i (nI 0))), (mm x R Z Y o A c (pm_v G 20 0 (nI 1)) g))) : pW ns d 93 22 [some (pm_r 20 0), some (pm_i v1), some (pm_i v2), some (pm_i v3), u4] [] (mm x R Z Y o A c G g) Q := by
  refine b93_22 hR  (fun h1 => ?_) (fun h1 => ?_)
  · skip
    exact b93_31 hR   (k1 h1)
  · skip
    refine b93_26 hR   (fun h2 => ?_) (fun h2 => ?_)
    · skip
      exact (k2 h1 h2)
    · skip
      exact b93_31 hR   (k3 h1 h2)
set_option maxRecDepth 20000 in
theorem t93_26 (hR : RS R) {v1 : Int32} {v2 : Int32} {v3 : Int32} {u4 : Option pm_V}  (k1 : (v3 ≤ nI 2) → pW ns d 93 38 [some (pm_r 20 0), some (pm_i v1), some (pm_i v2), some (pm_i v3), u4] [] (mm x R Z Y o A c G g) Q) (k2 : (¬ (v3 ≤ nI 2)) → Q (.inl (some (pm_i (nI 0))), (mm x R Z Y o A c (pm_v G 20 0 (nI 1)) g))) : pW ns d 93 26 [some (pm_r 20 0), some (pm_i v1), some (pm_i v2), some (pm_i v3), u4] [] (mm x R Z Y o A c G g) Q := by
  refine b93_26 hR  (fun h1 => ?_) (fun h1 => ?_)
  · skip
    exact (k1 h1)
  · skip
    exact b93_31 hR   (k2 h1)
set_option maxRecDepth 20000 in
theorem t93_38 (hR : RS R) {v1 : Int32} {v2 : Int32} {v3 : Int32} {u4 : Option pm_V} {j1 : Nat} (e1 : ((nI 8) * v1) + v2 = nI j1) (l1 : j1 < 64) (k1 : (v3 = nI 1) → pW ns d 93 68 [some (pm_r 20 0), some (pm_i v1), some (pm_i v2), some (pm_i v3), some (pm_i (G 33 j1))] [] (mm x R Z Y o A c (pm_v G 33 j1 v3) g) Q) (k2 : (¬ (v3 = nI 1)) → pW ns d 93 86 [some (pm_r 20 0), some (pm_i v1), some (pm_i v2), some (pm_i v3), some (pm_i (G 33 j1))] [] (mm x R Z Y o A c (pm_v G 33 j1 v3) g) Q) : pW ns d 93 38 [some (pm_r 20 0), some (pm_i v1), some (pm_i v2), some (pm_i v3), u4] [] (mm x R Z Y o A c G g) Q := by
  refine b93_38 hR e1 l1 (fun h1 => ?_) (fun h1 => ?_)
  · skip
    exact (k1 h1)
  · skip
    exact (k2 h1)
/-! 94 JobLayerModel.mask -/
set_option maxRecDepth 20000 in
theorem b94_0 (hR : RS R) {v1 : Int32} {v2 : Int32} {u3 : Option pm_V}  {x2 : Nat} {o2 : Int64} {A2 : Nat → Nat → Nat → Int32} {c2 : Nat → Int64} {G2 : Nat → Nat → Int32} {g2 : Nat → Int64} {y : Int32} (hE : pE ns d 81 [pm_r 20 0, pm_i v1, pm_i (nI 1)] (mm x R Z Y o A c G g) (.inl (some (pm_i y)), (mm x2 R Z Y o2 A2 c2 G2 g2))) (k : pW ns d 94 6 [some (pm_r 20 0), some (pm_i v1), some (pm_i v2), u3] [pm_i y] (mm x2 R Z Y o2 A2 c2 G2 g2) Q) : pW ns d 94 0 [some (pm_r 20 0), some (pm_i v1), some (pm_i v2), u3] [] (mm x R Z Y o A c G g) Q := by
  refine pW_call (pc' := 3) (r := []) (L' := [some (pm_r 20 0), some (pm_i v1), some (pm_i v2), u3]) 4 (fun call n => ?_) hE k
  exact Eq.trans (b := pm_g (mm x R Z Y o A c G g) 20 0 (pm_cl call 94 (pm_go call ns d 94 n) 3 81 [pm_r 20 0, pm_i v1, pm_i (nI 1)] [] [some (pm_r 20 0), some (pm_i v1), some (pm_i v2), u3] (mm x R Z Y o A c G g))) rfl (g_ok (f := 20) (by decide) rfl)
set_option maxRecDepth 20000 in
theorem b94_6 (hR : RS R) {v1 : Int32} {v2 : Int32} {u3 : Option pm_V} {vs0 : Int32}   (k1 : vs0 = 0 → pW ns d 94 9 [some (pm_r 20 0), some (pm_i v1), some (pm_i v2), u3] [] (mm x R Z Y o A c G g) Q) (k2 : ¬ (vs0 = 0) → pW ns d 94 11 [some (pm_r 20 0), some (pm_i v1), some (pm_i v2), u3] [] (mm x R Z Y o A c G g) Q) : pW ns d 94 6 [some (pm_r 20 0), some (pm_i v1), some (pm_i v2), u3] [pm_i vs0] (mm x R Z Y o A c G g) Q := by
  exact pW_if 1 (c := vs0 = 0) (fun call n => rfl) k1 k2
set_option maxRecDepth 20000 in
theorem b94_9 (hR : RS R) {u0 : Option pm_V} {u1 : Option pm_V} {u2 : Option pm_V} {u3 : Option pm_V}   (k : Q (.inl (some (pm_i (nI 0))), (mm x R Z Y o A c G g))) : pW ns d 94 9 [u0, u1, u2, u3] [] (mm x R Z Y o A c G g) Q := by
  refine pW_ret 2 (fun call n => ?_) k
  rfl
set_option maxRecDepth 20000 in
theorem b94_11 (hR : RS R) {v1 : Int32} {v2 : Int32} {u3 : Option pm_V} {j1 : Nat} (e1 : v1 = nI j1) (l1 : j1 < 8) {x2 : Nat} {o2 : Int64} {A2 : Nat → Nat → Nat → Int32} {c2 : Nat → Int64} {G2 : Nat → Nat → Int32} {g2 : Nat → Int64}  (hE : pE ns d 61 [pm_r 20 0, pm_i v1] (mm x R Z Y o A c (pm_v G 24 j1 (v2 &&& (nI 254))) g) (.inl (none), (mm x2 R Z Y o2 A2 c2 G2 g2))) (k : pW ns d 94 34 [some (pm_r 20 0), some (pm_i v1), some (pm_i v2), some (pm_i (G 24 j1))] [] (mm x2 R Z Y o2 A2 c2 G2 g2) Q) : pW ns d 94 11 [some (pm_r 20 0), some (pm_i v1), some (pm_i v2), u3] [] (mm x R Z Y o A c G g) Q := by
  refine pW_eq 2 (pc' := 15) (L' := [some (pm_r 20 0), some (pm_i v1), some (pm_i v2), u3]) (S' := [pm_r 24 0]) (M' := (mm x R Z Y o A c G g)) (fun call n => ?_) ?_
  · refine Eq.trans (b := pm_g (mm x R Z Y o A c G g) 20 0 (pm_go call ns d 94 n 15 [some (pm_r 20 0), some (pm_i v1), some (pm_i v2), u3] [pm_a (R 20 0 4)] (mm x R Z Y o A c G g))) rfl ?_
    refine (g_ok (f := 20) (by decide) rfl).trans ?_
    exact (congrArg (fun z => pm_go call ns d 94 n 15 [some (pm_r 20 0), some (pm_i v1), some (pm_i v2), u3] [pm_a z] (mm x R Z Y o A c G g)) (rs_20_4 hR))
  refine pW_eq 2 (pc' := 17) (L' := [some (pm_r 20 0), some (pm_i v1), some (pm_i v2), u3]) (S' := [pm_i (G 24 j1)]) (M' := (mm x R Z Y o A c G g)) (fun call n => ?_) ?_
  · refine Eq.trans (b := pm_g (mm x R Z Y o A c G g) 24 0 (pm_ix (v1) 8 (fun jx => pm_go call ns d 94 n 17 [some (pm_r 20 0), some (pm_i v1), some (pm_i v2), u3] [pm_i (G 24 jx)] (mm x R Z Y o A c G g)))) rfl ?_
    refine (g_ok (f := 24) (by decide) rfl).trans ?_
    refine (ix_ok (j := j1) e1 l1 (by decide)).trans ?_
    rfl
  refine pW_eq 3 (pc' := 22) (L' := [some (pm_r 20 0), some (pm_i v1), some (pm_i v2), some (pm_i (G 24 j1))]) (S' := [pm_r 24 0]) (M' := (mm x R Z Y o A c G g)) (fun call n => ?_) ?_
  · refine Eq.trans (b := pm_g (mm x R Z Y o A c G g) 20 0 (pm_go call ns d 94 n 22 [some (pm_r 20 0), some (pm_i v1), some (pm_i v2), some (pm_i (G 24 j1))] [pm_a (R 20 0 4)] (mm x R Z Y o A c G g))) rfl ?_
    refine (g_ok (f := 20) (by decide) rfl).trans ?_
    exact (congrArg (fun z => pm_go call ns d 94 n 22 [some (pm_r 20 0), some (pm_i v1), some (pm_i v2), some (pm_i (G 24 j1))] [pm_a z] (mm x R Z Y o A c G g)) (rs_20_4 hR))
  refine pW_eq 5 (pc' := 29) (L' := [some (pm_r 20 0), some (pm_i v1), some (pm_i v2), some (pm_i (G 24 j1))]) (S' := []) (M' := (mm x R Z Y o A c (pm_v G 24 j1 (v2 &&& (nI 254))) g)) (fun call n => ?_) ?_
  · refine Eq.trans (b := pm_g (mm x R Z Y o A c G g) 24 0 (pm_ix (v1) 8 (fun jx => pm_go call ns d 94 n 29 [some (pm_r 20 0), some (pm_i v1), some (pm_i v2), some (pm_i (G 24 j1))] [] (pm_u (mA Z A G) 24 0 jx (v2 &&& (nI 254)), mB Y o c g, R, pm_tot, x)))) rfl ?_
    refine (g_ok (f := 24) (by decide) rfl).trans ?_
    refine (ix_ok (j := j1) e1 l1 (by decide)).trans ?_
    exact (congrArg (fun z => pm_go call ns d 94 n 29 [some (pm_r 20 0), some (pm_i v1), some (pm_i v2), some (pm_i (G 24 j1))] [] (z, mB Y o c g, R, pm_tot, x)) (uG (by decide)))
  refine pW_call (pc' := 31) (r := []) (L' := [some (pm_r 20 0), some (pm_i v1), some (pm_i v2), some (pm_i (G 24 j1))]) 3 (fun call n => ?_) hE k
  exact Eq.trans (b := pm_g (mm x R Z Y o A c (pm_v G 24 j1 (v2 &&& (nI 254))) g) 20 0 (pm_cl call 94 (pm_go call ns d 94 n) 31 61 [pm_r 20 0, pm_i v1] [] [some (pm_r 20 0), some (pm_i v1), some (pm_i v2), some (pm_i (G 24 j1))] (mm x R Z Y o A c (pm_v G 24 j1 (v2 &&& (nI 254))) g))) rfl (g_ok (f := 20) (by decide) rfl)
set_option maxRecDepth 20000 in
theorem b94_34 (hR : RS R) {u1 : Option pm_V} {u2 : Option pm_V} {v3 : Int32}  {x2 : Nat} {o2 : Int64} {A2 : Nat → Nat → Nat → Int32} {c2 : Nat → Int64} {G2 : Nat → Nat → Int32} {g2 : Nat → Int64}  (hE : pE ns d 72 [pm_r 20 0] (mm x R Z Y o A c G g) (.inl (none), (mm x2 R Z Y o2 A2 c2 G2 g2))) (k : pW ns d 94 38 [some (pm_r 20 0), u1, u2, some (pm_i v3)] [] (mm x2 R Z Y o2 A2 c2 G2 g2) Q) : pW ns d 94 34 [some (pm_r 20 0), u1, u2, some (pm_i v3)] [] (mm x R Z Y o A c G g) Q := by
  refine pW_call (pc' := 35) (r := []) (L' := [some (pm_r 20 0), u1, u2, some (pm_i v3)]) 2 (fun call n => ?_) hE k
  exact Eq.trans (b := pm_g (mm x R Z Y o A c G g) 20 0 (pm_cl call 94 (pm_go call ns d 94 n) 35 72 [pm_r 20 0] [] [some (pm_r 20 0), u1, u2, some (pm_i v3)] (mm x R Z Y o A c G g))) rfl (g_ok (f := 20) (by decide) rfl)
set_option maxRecDepth 20000 in
theorem b94_38 (hR : RS R) {u0 : Option pm_V} {u1 : Option pm_V} {u2 : Option pm_V} {v3 : Int32}   (k : Q (.inl (some (pm_i v3)), (mm x R Z Y o A c G g))) : pW ns d 94 38 [u0, u1, u2, some (pm_i v3)] [] (mm x R Z Y o A c G g) Q := by
  refine pW_ret 2 (fun call n => ?_) k
  rfl
set_option maxRecDepth 20000 in
theorem t94_6 (hR : RS R) {v1 : Int32} {v2 : Int32} {u3 : Option pm_V} {vs0 : Int32}  (k1 : (vs0 = 0) → Q (.inl (some (pm_i (nI 0))), (mm x R Z Y o A c G g))) (k2 : (¬ (vs0 = 0)) → pW ns d 94 11 [some (pm_r 20 0), some (pm_i v1), some (pm_i v2), u3] [] (mm x R Z Y o A c G g) Q) : pW ns d 94 6 [some (pm_r 20 0), some (pm_i v1), some (pm_i v2), u3] [pm_i vs0] (mm x R Z Y o A c G g) Q := by
  refine b94_6 hR  (fun h1 => ?_) (fun h1 => ?_)
  · skip
    exact b94_9 hR   (k1 h1)
  · skip
    exact (k2 h1)
/-! 95 JobLayerModel.group -/
set_option maxRecDepth 20000 in
theorem b95_0 (hR : RS R) {v1 : Int32} {v2 : Int32} {v3 : Int32} {u4 : Option pm_V}  {x2 : Nat} {o2 : Int64} {A2 : Nat → Nat → Nat → Int32} {c2 : Nat → Int64} {G2 : Nat → Nat → Int32} {g2 : Nat → Int64} {y : Int32} (hE : pE ns d 81 [pm_r 20 0, pm_i v1, pm_i (nI 1)] (mm x R Z Y o A c G g) (.inl (some (pm_i y)), (mm x2 R Z Y o2 A2 c2 G2 g2))) (k : pW ns d 95 6 [some (pm_r 20 0), some (pm_i v1), some (pm_i v2), some (pm_i v3), u4] [pm_i y] (mm x2 R Z Y o2 A2 c2 G2 g2) Q) : pW ns d 95 0 [some (pm_r 20 0), some (pm_i v1), some (pm_i v2), some (pm_i v3), u4] [] (mm x R Z Y o A c G g) Q := by
  refine pW_call (pc' := 3) (r := []) (L' := [some (pm_r 20 0), some (pm_i v1), some (pm_i v2), some (pm_i v3), u4]) 4 (fun call n => ?_) hE k
  exact Eq.trans (b := pm_g (mm x R Z Y o A c G g) 20 0 (pm_cl call 95 (pm_go call ns d 95 n) 3 81 [pm_r 20 0, pm_i v1, pm_i (nI 1)] [] [some (pm_r 20 0), some (pm_i v1), some (pm_i v2), some (pm_i v3), u4] (mm x R Z Y o A c G g))) rfl (g_ok (f := 20) (by decide) rfl)
set_option maxRecDepth 20000 in
theorem b95_6 (hR : RS R) {v1 : Int32} {v2 : Int32} {v3 : Int32} {u4 : Option pm_V} {vs0 : Int32}   (k1 : vs0 = 0 → pW ns d 95 9 [some (pm_r 20 0), some (pm_i v1), some (pm_i v2), some (pm_i v3), u4] [] (mm x R Z Y o A c G g) Q) (k2 : ¬ (vs0 = 0) → pW ns d 95 11 [some (pm_r 20 0), some (pm_i v1), some (pm_i v2), some (pm_i v3), u4] [] (mm x R Z Y o A c G g) Q) : pW ns d 95 6 [some (pm_r 20 0), some (pm_i v1), some (pm_i v2), some (pm_i v3), u4] [pm_i vs0] (mm x R Z Y o A c G g) Q := by
  exact pW_if 1 (c := vs0 = 0) (fun call n => rfl) k1 k2
set_option maxRecDepth 20000 in
theorem b95_9 (hR : RS R) {u0 : Option pm_V} {u1 : Option pm_V} {u2 : Option pm_V} {u3 : Option pm_V} {u4 : Option pm_V}   (k : Q (.inl (some (pm_i (nI 0))), (mm x R Z Y o A c G g))) : pW ns d 95 9 [u0, u1, u2, u3, u4] [] (mm x R Z Y o A c G g) Q := by
  refine pW_ret 2 (fun call n => ?_) k
  rfl
set_option maxRecDepth 20000 in
theorem b95_11 (hR : RS R) {v1 : Int32} {v2 : Int32} {v3 : Int32} {u4 : Option pm_V}  {x2 : Nat} {o2 : Int64} {A2 : Nat → Nat → Nat → Int32} {c2 : Nat → Int64} {G2 : Nat → Nat → Int32} {g2 : Nat → Int64} {y : Int32} (hE : pE ns d 47 [pm_r 20 0, pm_i v2] (mm x R Z Y o A c G g) (.inl (some (pm_i y)), (mm x2 R Z Y o2 A2 c2 G2 g2))) (k : pW ns d 95 16 [some (pm_r 20 0), some (pm_i v1), some (pm_i v2), some (pm_i v3), u4] [pm_i y] (mm x2 R Z Y o2 A2 c2 G2 g2) Q) : pW ns d 95 11 [some (pm_r 20 0), some (pm_i v1), some (pm_i v2), some (pm_i v3), u4] [] (mm x R Z Y o A c G g) Q := by
  refine pW_call (pc' := 13) (r := []) (L' := [some (pm_r 20 0), some (pm_i v1), some (pm_i v2), some (pm_i v3), u4]) 3 (fun call n => ?_) hE k
  exact Eq.trans (b := pm_g (mm x R Z Y o A c G g) 20 0 (pm_cl call 95 (pm_go call ns d 95 n) 13 47 [pm_r 20 0, pm_i v2] [] [some (pm_r 20 0), some (pm_i v1), some (pm_i v2), some (pm_i v3), u4] (mm x R Z Y o A c G g))) rfl (g_ok (f := 20) (by decide) rfl)
set_option maxRecDepth 20000 in
theorem b95_16 (hR : RS R) {v1 : Int32} {v2 : Int32} {v3 : Int32} {u4 : Option pm_V} {vs0 : Int32}   (k1 : vs0 = 0 → pW ns d 95 50 [some (pm_r 20 0), some (pm_i v1), some (pm_i v2), some (pm_i v3), u4] [] (mm x R Z Y o A c G g) Q) (k2 : ¬ (vs0 = 0) → pW ns d 95 19 [some (pm_r 20 0), some (pm_i v1), some (pm_i v2), some (pm_i v3), u4] [] (mm x R Z Y o A c G g) Q) : pW ns d 95 16 [some (pm_r 20 0), some (pm_i v1), some (pm_i v2), some (pm_i v3), u4] [pm_i vs0] (mm x R Z Y o A c G g) Q := by
  exact pW_if 1 (c := vs0 = 0) (fun call n => rfl) k1 k2
set_option maxRecDepth 20000 in
theorem b95_50 (hR : RS R) {u1 : Option pm_V} {v2 : Int32} {v3 : Int32} {u4 : Option pm_V}   (k1 : nI 0 = 0 → pW ns d 95 71 [some (pm_r 20 0), u1, some (pm_i v2), some (pm_i v3), some (pm_i (nI 0))] [] (mm x R Z Y o A c G g) Q) (k2 : ¬ (nI 0 = 0) → pW ns d 95 58 [some (pm_r 20 0), u1, some (pm_i v2), some (pm_i v3), some (pm_i (nI 0))] [] (mm x R Z Y o A c G g) Q) : pW ns d 95 50 [some (pm_r 20 0), u1, some (pm_i v2), some (pm_i v3), u4] [] (mm x R Z Y o A c G g) Q := by
  exact pW_if 4 (c := nI 0 = 0) (fun call n => rfl) k1 k2
set_option maxRecDepth 20000 in
theorem b95_19 (hR : RS R) {v1 : Int32} {v2 : Int32} {v3 : Int32} {u4 : Option pm_V}   (k1 : v2 ≤ 0 → pW ns d 95 50 [some (pm_r 20 0), some (pm_i v1), some (pm_i v2), some (pm_i v3), u4] [] (mm x R Z Y o A c G g) Q) (k2 : ¬ (v2 ≤ 0) → pW ns d 95 23 [some (pm_r 20 0), some (pm_i v1), some (pm_i v2), some (pm_i v3), u4] [] (mm x R Z Y o A c G g) Q) : pW ns d 95 19 [some (pm_r 20 0), some (pm_i v1), some (pm_i v2), some (pm_i v3), u4] [] (mm x R Z Y o A c G g) Q := by
  exact pW_if 2 (c := v2 ≤ 0) (fun call n => rfl) k1 k2
set_option maxRecDepth 20000 in
theorem b95_71 (hR : RS R) {u0 : Option pm_V} {u1 : Option pm_V} {u2 : Option pm_V} {u3 : Option pm_V} {u4 : Option pm_V}   (k : Q (.inl (some (pm_i (-nI 7))), (mm x R Z Y o A c G g))) : pW ns d 95 71 [u0, u1, u2, u3, u4] [] (mm x R Z Y o A c G g) Q := by
  refine pW_ret 2 (fun call n => ?_) k
  rfl
set_option maxRecDepth 20000 in
theorem b95_58 (hR : RS R) {u1 : Option pm_V} {v2 : Int32} {v3 : Int32} {u4 : Option pm_V}   (k1 : v3 = v2 → pW ns d 95 74 [some (pm_r 20 0), u1, some (pm_i v2), some (pm_i v3), u4] [] (mm x R Z Y o A c G g) Q) (k2 : ¬ (v3 = v2) → pW ns d 95 63 [some (pm_r 20 0), u1, some (pm_i v2), some (pm_i v3), u4] [] (mm x R Z Y o A c G g) Q) : pW ns d 95 58 [some (pm_r 20 0), u1, some (pm_i v2), some (pm_i v3), u4] [] (mm x R Z Y o A c G g) Q := by
  exact pW_if 3 (c := v3 = v2) (fun call n => rfl) k1 k2
set_option maxRecDepth 20000 in
theorem b95_23 (hR : RS R) {v1 : Int32} {v2 : Int32} {v3 : Int32} {u4 : Option pm_V}  {x2 : Nat} {o2 : Int64} {A2 : Nat → Nat → Nat → Int32} {c2 : Nat → Int64} {G2 : Nat → Nat → Int32} {g2 : Nat → Int64} {y : Int32} (hE : pE ns d 48 [pm_r 20 0, pm_i v2] (mm x R Z Y o A c G g) (.inl (some (pm_i y)), (mm x2 R Z Y o2 A2 c2 G2 g2))) (k : pW ns d 95 28 [some (pm_r 20 0), some (pm_i v1), some (pm_i v2), some (pm_i v3), u4] [pm_i y] (mm x2 R Z Y o2 A2 c2 G2 g2) Q) : pW ns d 95 23 [some (pm_r 20 0), some (pm_i v1), some (pm_i v2), some (pm_i v3), u4] [] (mm x R Z Y o A c G g) Q := by
  refine pW_call (pc' := 25) (r := []) (L' := [some (pm_r 20 0), some (pm_i v1), some (pm_i v2), some (pm_i v3), u4]) 3 (fun call n => ?_) hE k
  exact Eq.trans (b := pm_g (mm x R Z Y o A c G g) 20 0 (pm_cl call 95 (pm_go call ns d 95 n) 25 48 [pm_r 20 0, pm_i v2] [] [some (pm_r 20 0), some (pm_i v1), some (pm_i v2), some (pm_i v3), u4] (mm x R Z Y o A c G g))) rfl (g_ok (f := 20) (by decide) rfl)
set_option maxRecDepth 20000 in
theorem b95_74 (hR : RS R) {u1 : Option pm_V} {v2 : Int32} {v3 : Int32} {u4 : Option pm_V} {j1 : Nat} (e1 : v2 = nI j1) (l1 : j1 < 8) {x2 : Nat} {o2 : Int64} {A2 : Nat → Nat → Nat → Int32} {c2 : Nat → Int64} {G2 : Nat → Nat → Int32} {g2 : Nat → Int64}  (hE : pE ns d 72 [pm_r 20 0] (mm x R Z Y o A c (pm_v G 23 j1 v3) g) (.inl (none), (mm x2 R Z Y o2 A2 c2 G2 g2))) (k : pW ns d 95 85 [some (pm_r 20 0), u1, some (pm_i v2), some (pm_i v3), u4] [] (mm x2 R Z Y o2 A2 c2 G2 g2) Q) : pW ns d 95 74 [some (pm_r 20 0), u1, some (pm_i v2), some (pm_i v3), u4] [] (mm x R Z Y o A c G g) Q := by
  refine pW_eq 2 (pc' := 78) (L' := [some (pm_r 20 0), u1, some (pm_i v2), some (pm_i v3), u4]) (S' := [pm_r 23 0]) (M' := (mm x R Z Y o A c G g)) (fun call n => ?_) ?_
  · refine Eq.trans (b := pm_g (mm x R Z Y o A c G g) 20 0 (pm_go call ns d 95 n 78 [some (pm_r 20 0), u1, some (pm_i v2), some (pm_i v3), u4] [pm_a (R 20 0 3)] (mm x R Z Y o A c G g))) rfl ?_
    refine (g_ok (f := 20) (by decide) rfl).trans ?_
    exact (congrArg (fun z => pm_go call ns d 95 n 78 [some (pm_r 20 0), u1, some (pm_i v2), some (pm_i v3), u4] [pm_a z] (mm x R Z Y o A c G g)) (rs_20_3 hR))
  refine pW_eq 3 (pc' := 81) (L' := [some (pm_r 20 0), u1, some (pm_i v2), some (pm_i v3), u4]) (S' := []) (M' := (mm x R Z Y o A c (pm_v G 23 j1 v3) g)) (fun call n => ?_) ?_
  · refine Eq.trans (b := pm_g (mm x R Z Y o A c G g) 23 0 (pm_ix (v2) 8 (fun jx => pm_go call ns d 95 n 81 [some (pm_r 20 0), u1, some (pm_i v2), some (pm_i v3), u4] [] (pm_u (mA Z A G) 23 0 jx v3, mB Y o c g, R, pm_tot, x)))) rfl ?_
    refine (g_ok (f := 23) (by decide) rfl).trans ?_
    refine (ix_ok (j := j1) e1 l1 (by decide)).trans ?_
    exact (congrArg (fun z => pm_go call ns d 95 n 81 [some (pm_r 20 0), u1, some (pm_i v2), some (pm_i v3), u4] [] (z, mB Y o c g, R, pm_tot, x)) (uG (by decide)))
  refine pW_call (pc' := 82) (r := []) (L' := [some (pm_r 20 0), u1, some (pm_i v2), some (pm_i v3), u4]) 2 (fun call n => ?_) hE k
  exact Eq.trans (b := pm_g (mm x R Z Y o A c (pm_v G 23 j1 v3) g) 20 0 (pm_cl call 95 (pm_go call ns d 95 n) 82 72 [pm_r 20 0] [] [some (pm_r 20 0), u1, some (pm_i v2), some (pm_i v3), u4] (mm x R Z Y o A c (pm_v G 23 j1 v3) g))) rfl (g_ok (f := 20) (by decide) rfl)
set_option maxRecDepth 20000 in
theorem b95_63 (hR : RS R) {u1 : Option pm_V} {v2 : Int32} {v3 : Int32} {u4 : Option pm_V}  {x2 : Nat} {o2 : Int64} {A2 : Nat → Nat → Nat → Int32} {c2 : Nat → Int64} {G2 : Nat → Nat → Int32} {g2 : Nat → Int64} {y : Int32} (hE : pE ns d 53 [pm_r 20 0, pm_i v3] (mm x R Z Y o A c G g) (.inl (some (pm_i y)), (mm x2 R Z Y o2 A2 c2 G2 g2))) (k : pW ns d 95 68 [some (pm_r 20 0), u1, some (pm_i v2), some (pm_i v3), u4] [pm_i y] (mm x2 R Z Y o2 A2 c2 G2 g2) Q) : pW ns d 95 63 [some (pm_r 20 0), u1, some (pm_i v2), some (pm_i v3), u4] [] (mm x R Z Y o A c G g) Q := by
  refine pW_call (pc' := 65) (r := []) (L' := [some (pm_r 20 0), u1, some (pm_i v2), some (pm_i v3), u4]) 3 (fun call n => ?_) hE k
  exact Eq.trans (b := pm_g (mm x R Z Y o A c G g) 20 0 (pm_cl call 95 (pm_go call ns d 95 n) 65 53 [pm_r 20 0, pm_i v3] [] [some (pm_r 20 0), u1, some (pm_i v2), some (pm_i v3), u4] (mm x R Z Y o A c G g))) rfl (g_ok (f := 20) (by decide) rfl)
set_option maxRecDepth 20000 in
theorem b95_28 (hR : RS R) {v1 : Int32} {v2 : Int32} {v3 : Int32} {u4 : Option pm_V} {vs0 : Int32}   (k1 : vs0 = 0 → pW ns d 95 50 [some (pm_r 20 0), some (pm_i v1), some (pm_i v2), some (pm_i v3), u4] [] (mm x R Z Y o A c G g) Q) (k2 : ¬ (vs0 = 0) → pW ns d 95 31 [some (pm_r 20 0), some (pm_i v1), some (pm_i v2), some (pm_i v3), u4] [] (mm x R Z Y o A c G g) Q) : pW ns d 95 28 [some (pm_r 20 0), some (pm_i v1), some (pm_i v2), some (pm_i v3), u4] [pm_i vs0] (mm x R Z Y o A c G g) Q := by
  exact pW_if 1 (c := vs0 = 0) (fun call n => rfl) k1 k2
set_option maxRecDepth 20000 in
theorem b95_85 (hR : RS R) {u0 : Option pm_V} {u1 : Option pm_V} {u2 : Option pm_V} {u3 : Option pm_V} {u4 : Option pm_V}   (k : Q (.inl (some (pm_i (nI 0))), (mm x R Z Y o A c G g))) : pW ns d 95 85 [u0, u1, u2, u3, u4] [] (mm x R Z Y o A c G g) Q := by
  refine pW_ret 2 (fun call n => ?_) k
  rfl
set_option maxRecDepth 20000 in
theorem b95_68 (hR : RS R) {u1 : Option pm_V} {v2 : Int32} {v3 : Int32} {u4 : Option pm_V} {vs0 : Int32}   (k1 : vs0 = 0 → pW ns d 95 71 [some (pm_r 20 0), u1, some (pm_i v2), some (pm_i v3), u4] [] (mm x R Z Y o A c G g) Q) (k2 : ¬ (vs0 = 0) → pW ns d 95 74 [some (pm_r 20 0), u1, some (pm_i v2), some (pm_i v3), u4] [] (mm x R Z Y o A c G g) Q) : pW ns d 95 68 [some (pm_r 20 0), u1, some (pm_i v2), some (pm_i v3), u4] [pm_i vs0] (mm x R Z Y o A c G g) Q := by
  exact pW_if 1 (c := vs0 = 0) (fun call n => rfl) k1 k2
set_option maxRecDepth 20000 in
theorem b95_31 (hR : RS R) {v1 : Int32} {v2 : Int32} {v3 : Int32} {u4 : Option pm_V}   (k1 : v2 = v1 → pW ns d 95 46 [some (pm_r 20 0), some (pm_i v1), some (pm_i v2), some (pm_i v3), u4] [] (mm x R Z Y o A c G g) Q) (k2 : ¬ (v2 = v1) → pW ns d 95 36 [some (pm_r 20 0), some (pm_i v1), some (pm_i v2), some (pm_i v3), u4] [] (mm x R Z Y o A c G g) Q) : pW ns d 95 31 [some (pm_r 20 0), some (pm_i v1), some (pm_i v2), some (pm_i v3), u4] [] (mm x R Z Y o A c G g) Q := by
  exact pW_if 3 (c := v2 = v1) (fun call n => rfl) k1 k2
set_option maxRecDepth 20000 in
theorem b95_46 (hR : RS R) {u1 : Option pm_V} {v2 : Int32} {v3 : Int32} {u4 : Option pm_V}   (k1 : nI 1 = 0 → pW ns d 95 71 [some (pm_r 20 0), u1, some (pm_i v2), some (pm_i v3), some (pm_i (nI 1))] [] (mm x R Z Y o A c G g) Q) (k2 : ¬ (nI 1 = 0) → pW ns d 95 58 [some (pm_r 20 0), u1, some (pm_i v2), some (pm_i v3), some (pm_i (nI 1))] [] (mm x R Z Y o A c G g) Q) : pW ns d 95 46 [some (pm_r 20 0), u1, some (pm_i v2), some (pm_i v3), u4] [] (mm x R Z Y o A c G g) Q := by
  exact pW_if 5 (c := nI 1 = 0) (fun call n => rfl) k1 k2
set_option maxRecDepth 20000 in
theorem b95_36 (hR : RS R) {v1 : Int32} {v2 : Int32} {v3 : Int32} {u4 : Option pm_V} {j1 : Nat} (e1 : v2 = nI j1) (l1 : j1 < 8)  (k1 : G 22 j1 = v1 → pW ns d 95 46 [some (pm_r 20 0), some (pm_i v1), some (pm_i v2), some (pm_i v3), u4] [] (mm x R Z Y o A c G g) Q) (k2 : ¬ (G 22 j1 = v1) → pW ns d 95 50 [some (pm_r 20 0), some (pm_i v1), some (pm_i v2), some (pm_i v3), u4] [] (mm x R Z Y o A c G g) Q) : pW ns d 95 36 [some (pm_r 20 0), some (pm_i v1), some (pm_i v2), some (pm_i v3), u4] [] (mm x R Z Y o A c G g) Q := by
  refine pW_eq 2 (pc' := 40) (L' := [some (pm_r 20 0), some (pm_i v1), some (pm_i v2), some (pm_i v3), u4]) (S' := [pm_r 22 0]) (M' := (mm x R Z Y o A c G g)) (fun call n => ?_) ?_
  · refine Eq.trans (b := pm_g (mm x R Z Y o A c G g) 20 0 (pm_go call ns d 95 n 40 [some (pm_r 20 0), some (pm_i v1), some (pm_i v2), some (pm_i v3), u4] [pm_a (R 20 0 2)] (mm x R Z Y o A c G g))) rfl ?_
    refine (g_ok (f := 20) (by decide) rfl).trans ?_
    exact (congrArg (fun z => pm_go call ns d 95 n 40 [some (pm_r 20 0), some (pm_i v1), some (pm_i v2), some (pm_i v3), u4] [pm_a z] (mm x R Z Y o A c G g)) (rs_20_2 hR))
  refine pW_eq 2 (pc' := 42) (L' := [some (pm_r 20 0), some (pm_i v1), some (pm_i v2), some (pm_i v3), u4]) (S' := [pm_i (G 22 j1)]) (M' := (mm x R Z Y o A c G g)) (fun call n => ?_) ?_
  · refine Eq.trans (b := pm_g (mm x R Z Y o A c G g) 22 0 (pm_ix (v2) 8 (fun jx => pm_go call ns d 95 n 42 [some (pm_r 20 0), some (pm_i v1), some (pm_i v2), some (pm_i v3), u4] [pm_i (G 22 jx)] (mm x R Z Y o A c G g)))) rfl ?_
    refine (g_ok (f := 22) (by decide) rfl).trans ?_
    refine (ix_ok (j := j1) e1 l1 (by decide)).trans ?_
    rfl
  exact pW_if 2 (c := G 22 j1 = v1) (fun call n => rfl) k1 k2
set_option maxRecDepth 20000 in
theorem t95_6 (hR : RS R) {v1 : Int32} {v2 : Int32} {v3 : Int32} {u4 : Option pm_V} {vs0 : Int32}  (k1 : (vs0 = 0) → Q (.inl (some (pm_i (nI 0))), (mm x R Z Y o A c G g))) (k2 : (¬ (vs0 = 0)) → pW ns d 95 11 [some (pm_r 20 0), some (pm_i v1), some (pm_i v2), some (pm_i v3), u4] [] (mm x R Z Y o A c G g) Q) : pW ns d 95 6 [some (pm_r 20 0), some (pm_i v1), some (pm_i v2), some (pm_i v3), u4] [pm_i vs0] (mm x R Z Y o A c G g) Q := by
  refine b95_6 hR  (fun h1 => ?_) (fun h1 => ?_)
  · skip
    exact b95_9 hR   (k1 h1)
  · skip
    exact (k2 h1)
set_option maxRecDepth 20000 in
theorem t95_16 (hR : RS R) {v1 : Int32} {v2 : Int32} {v3 : Int32} {u4 : Option pm_V} {vs0 : Int32}  (k1 : (vs0 = 0) → Q (.inl (some (pm_i (-nI 7))), (mm x R Z Y o A c G g))) (k2 : (¬ (vs0 = 0)) → (v2 ≤ 0) → Q (.inl (some (pm_i (-nI 7))), (mm x R Z Y o A c G g))) (k3 : (¬ (vs0 = 0)) → (¬ (v2 ≤ 0)) → pW ns d 95 23 [some (pm_r 20 0), some (pm_i v1), some (pm_i v2), some (pm_i v3), u4] [] (mm x R Z Y o A c G g) Q) : pW ns d 95 16 [some (pm_r 20 0), some (pm_i v1), some (pm_i v2), some (pm_i v3), u4] [pm_i vs0] (mm x R Z Y o A c G g) Q := by
  refine b95_16 hR  (fun h1 => ?_) (fun h1 => ?_)
  · skip
    refine b95_50 hR   (fun h2 => ?_) (fun h2 => ?_)
    · skip
      exact b95_71 hR   (k1 h1)
    · exact absurd h2 (by decide)
  · skip
    refine b95_19 hR   (fun h2 => ?_) (fun h2 => ?_)
    · skip
      refine b95_50 hR   (fun h3 => ?_) (fun h3 => ?_)
      · skip
        exact b95_71 hR   (k2 h1 h2)
      · exact absurd h3 (by decide)
    · skip
      exact (k3 h1 h2)
set_option maxRecDepth 20000 in
theorem t95_50 (hR : RS R) {u1 : Option pm_V} {v2 : Int32} {v3 : Int32} {u4 : Option pm_V}  (k1 : Q (.inl (some (pm_i (-nI 7))), (mm x R Z Y o A c G g))) : pW ns d 95 50 [some (pm_r 20 0), u1, some (pm_i v2), some (pm_i v3), u4] [] (mm x R Z Y o A c G g) Q := by
  refine b95_50 hR  (fun h1 => ?_) (fun h1 => ?_)
  · skip
    exact b95_71 hR   (k1 )
  · exact absurd h1 (by decide)
set_option maxRecDepth 20000 in
theorem t95_19 (hR : RS R) {v1 : Int32} {v2 : Int32} {v3 : Int32} {u4 : Option pm_V}  (k1 : (v2 ≤ 0) → Q (.inl (some (pm_i (-nI 7))), (mm x R Z Y o A c G g))) (k2 : (¬ (v2 ≤ 0)) → pW ns d 95 23 [some (pm_r 20 0), some (pm_i v1), some (pm_i v2), some (pm_i v3), u4] [] (mm x R Z Y o A c G g) Q) : pW ns d 95 19 [some (pm_r 20 0), some (pm_i v1), some (pm_i v2), some (pm_i v3), u4] [] (mm x R Z Y o A c G g) Q := by
  refine b95_19 hR  (fun h1 => ?_) (fun h1 => ?_)
  · skip
    refine b95_50 hR   (fun h2 => ?_) (fun h2 => ?_)
    · skip
      exact b95_71 hR   (k1 h1)
    · exact absurd h2 (by decide)
  · skip
    exact (k2 h1)
set_option maxRecDepth 20000 in
theorem t95_58 (hR : RS R) {u1 : Option pm_V} {v2 : Int32} {v3 : Int32} {u4 : Option pm_V}  (k1 : (v3 = v2) → pW ns d 95 74 [some (pm_r 20 0), u1, some (pm_i v2), some (pm_i v3), u4] [] (mm x R Z Y o A c G g) Q) (k2 : (¬ (v3 = v2)) → pW ns d 95 63 [some (pm_r 20 0), u1, some (pm_i v2), some (pm_i v3), u4] [] (mm x R Z Y o A c G g) Q) : pW ns d 95 58 [some (pm_r 20 0), u1, some (pm_i v2), some (pm_i v3), u4] [] (mm x R Z Y o A c G g) Q := by
  refine b95_58 hR  (fun h1 => ?_) (fun h1 => ?_)
  · skip
    exact (k1 h1)
  · skip
    exact (k2 h1)
set_option maxRecDepth 20000 in
theorem t95_28 (hR : RS R) {v1 : Int32} {v2 : Int32} {v3 : Int32} {u4 : Option pm_V} {vs0 : Int32}  (k1 : (vs0 = 0) → Q (.inl (some (pm_i (-nI 7))), (mm x R Z Y o A c G g))) (k2 : (¬ (vs0 = 0)) → (v2 = v1) → (v3 = v2) → pW ns d 95 74 [some (pm_r 20 0), some (pm_i v1), some (pm_i v2), some (pm_i v3), some (pm_i (nI 1))] [] (mm x R Z Y o A c G g) Q) (k3 : (¬ (vs0 = 0)) → (v2 = v1) → (¬ (v3 = v2)) → pW ns d 95 63 [some (pm_r 20 0), some (pm_i v1), some (pm_i v2), some (pm_i v3), some (pm_i (nI 1))] [] (mm x R Z Y o A c G g) Q) (k4 : (¬ (vs0 = 0)) → (¬ (v2 = v1)) → pW ns d 95 36 [some (pm_r 20 0), some (pm_i v1), some (pm_i v2), some (pm_i v3), u4] [] (mm x R Z Y o A c G g) Q) : pW ns d 95 28 [some (pm_r 20 0), some (pm_i v1), some (pm_i v2), some (pm_i v3), u4] [pm_i vs0] (mm x R Z Y o A c G g) Q := by
  refine b95_28 hR  (fun h1 => ?_) (fun h1 => ?_)
  · skip
    refine b95_50 hR   (fun h2 => ?_) (fun h2 => ?_)
    · skip
      exact b95_71 hR   (k1 h1)
    · exact absurd h2 (by decide)
  · skip
    refine b95_31 hR   (fun h2 => ?_) (fun h2 => ?_)
    · skip
      refine b95_46 hR   (fun h3 => ?_) (fun h3 => ?_)
      · exact absurd h3 (by decide)
      · skip
        refine b95_58 hR   (fun h4 => ?_) (fun h4 => ?_)
        · skip
          exact (k2 h1 h2 h4)
        · skip
          exact (k3 h1 h2 h4)
    · skip
      exact (k4 h1 h2)
set_option maxRecDepth 20000 in
theorem t95_68 (hR : RS R) {u1 : Option pm_V} {v2 : Int32} {v3 : Int32} {u4 : Option pm_V} {vs0 : Int32}  (k1 : (vs0 = 0) → Q (.inl (some (pm_i (-nI 7))), (mm x R Z Y o A c G g))) (k2 : (¬ (vs0 = 0)) → pW ns d 95 74 [some (pm_r 20 0), u1, some (pm_i v2), some (pm_i v3), u4] [] (mm x R Z Y o A c G g) Q) : pW ns d 95 68 [some (pm_r 20 0), u1, some (pm_i v2), some (pm_i v3), u4] [pm_i vs0] (mm x R Z Y o A c G g) Q := by
  refine b95_68 hR  (fun h1 => ?_) (fun h1 => ?_)
  · skip
    exact b95_71 hR   (k1 h1)
  · skip
    exact (k2 h1)
set_option maxRecDepth 20000 in
theorem t95_31 (hR : RS R) {v1 : Int32} {v2 : Int32} {v3 : Int32} {u4 : Option pm_V}  (k1 : (v2 = v1) → (v3 = v2) → pW ns d 95 74 [some (pm_r 20 0), some (pm_i v1), some (pm_i v2), some (pm_i v3), some (pm_i (nI 1))] [] (mm x R Z Y o A c G g) Q) (k2 : (v2 = v1) → (¬ (v3 = v2)) → pW ns d 95 63 [some (pm_r 20 0), some (pm_i v1), some (pm_i v2), some (pm_i v3), some (pm_i (nI 1))] [] (mm x R Z Y o A c G g) Q) (k3 : (¬ (v2 = v1)) → pW ns d 95 36 [some (pm_r 20 0), some (pm_i v1), some (pm_i v2), some (pm_i v3), u4] [] (mm x R Z Y o A c G g) Q) : pW ns d 95 31 [some (pm_r 20 0), some (pm_i v1), some (pm_i v2), some (pm_i v3), u4] [] (mm x R Z Y o A c G g) Q := by
  refine b95_31 hR  (fun h1 => ?_) (fun h1 => ?_)
  · skip
    refine b95_46 hR   (fun h2 => ?_) (fun h2 => ?_)
    · exact absurd h2 (by decide)
    · skip
      refine b95_58 hR   (fun h3 => ?_) (fun h3 => ?_)
      · skip
        exact (k1 h1 h3)
      · skip
        exact (k2 h1 h3)
  · skip
    exact (k3 h1)
set_option maxRecDepth 20000 in
theorem t95_46 (hR : RS R) {u1 : Option pm_V} {v2 : Int32} {v3 : Int32} {u4 : Option pm_V}  (k1 : (v3 = v2) → pW ns d 95 74 [some (pm_r 20 0), u1, some (pm_i v2), some (pm_i v3), some (pm_i (nI 1))] [] (mm x R Z Y o A c G g) Q) (k2 : (¬ (v3 = v2)) → pW ns d 95 63 [some (pm_r 20 0), u1, some (pm_i v2), some (pm_i v3), some (pm_i (nI 1))] [] (mm x R Z Y o A c G g) Q) : pW ns d 95 46 [some (pm_r 20 0), u1, some (pm_i v2), some (pm_i v3), u4] [] (mm x R Z Y o A c G g) Q := by
  refine b95_46 hR  (fun h1 => ?_) (fun h1 => ?_)
  · exact absurd h1 (by decide)
  · skip
    refine b95_58 hR   (fun h2 => ?_) (fun h2 => ?_)
    · skip
      exact (k1 h2)
    · skip
      exact (k2 h2)
set_option maxRecDepth 20000 in
theorem t95_36 (hR : RS R) {v1 : Int32} {v2 : Int32} {v3 : Int32} {u4 : Option pm_V} {j1 : Nat} (e1 : v2 = nI j1) (l1 : j1 < 8) (k1 : (G 22 j1 = v1) → (v3 = v2) → pW ns d 95 74 [some (pm_r 20 0), some (pm_i v1), some (pm_i v2), some (pm_i v3), some (pm_i (nI 1))] [] (mm x R Z Y o A c G g) Q) (k2 : (G 22 j1 = v1) → (¬ (v3 = v2)) → pW ns d 95 63 [some (pm_r 20 0), some (pm_i v1), some (pm_i v2), some (pm_i v3), some (pm_i (nI 1))] [] (mm x R Z Y o A c G g) Q) (k3 : (¬ (G 22 j1 = v1)) → Q (.inl (some (pm_i (-nI 7))), (mm x R Z Y o A c G g))) : pW ns d 95 36 [some (pm_r 20 0), some (pm_i v1), some (pm_i v2), some (pm_i v3), u4] [] (mm x R Z Y o A c G g) Q := by
  refine b95_36 hR e1 l1 (fun h1 => ?_) (fun h1 => ?_)
  · skip
    refine b95_46 hR   (fun h2 => ?_) (fun h2 => ?_)
    · exact absurd h2 (by decide)
    · skip
      refine b95_58 hR   (fun h3 => ?_) (fun h3 => ?_)
      · skip
        exact (k1 h1 h3)
      · skip
        exact (k2 h1 h3)
  · skip
    refine b95_50 hR   (fun h2 => ?_) (fun h2 => ?_)
    · skip
      exact b95_71 hR   (k3 h1)
    · exact absurd h2 (by decide)
/-! 96 JobLayerModel.foreground -/
set_option maxRecDepth 20000 in
theorem b96_0 (hR : RS R) {v1 : Int32} {v2 : Int32}  {x2 : Nat} {o2 : Int64} {A2 : Nat → Nat → Nat → Int32} {c2 : Nat → Int64} {G2 : Nat → Nat → Int32} {g2 : Nat → Int64} {y : Int32} (hE : pE ns d 81 [pm_r 20 0, pm_i v1, pm_i (nI 1)] (mm x R Z Y o A c G g) (.inl (some (pm_i y)), (mm x2 R Z Y o2 A2 c2 G2 g2))) (k : pW ns d 96 6 [some (pm_r 20 0), some (pm_i v1), some (pm_i v2)] [pm_i y] (mm x2 R Z Y o2 A2 c2 G2 g2) Q) : pW ns d 96 0 [some (pm_r 20 0), some (pm_i v1), some (pm_i v2)] [] (mm x R Z Y o A c G g) Q := by
  refine pW_call (pc' := 3) (r := []) (L' := [some (pm_r 20 0), some (pm_i v1), some (pm_i v2)]) 4 (fun call n => ?_) hE k
  exact Eq.trans (b := pm_g (mm x R Z Y o A c G g) 20 0 (pm_cl call 96 (pm_go call ns d 96 n) 3 81 [pm_r 20 0, pm_i v1, pm_i (nI 1)] [] [some (pm_r 20 0), some (pm_i v1), some (pm_i v2)] (mm x R Z Y o A c G g))) rfl (g_ok (f := 20) (by decide) rfl)
set_option maxRecDepth 20000 in
theorem b96_6 (hR : RS R) {v1 : Int32} {v2 : Int32} {vs0 : Int32}   (k1 : vs0 = 0 → pW ns d 96 9 [some (pm_r 20 0), some (pm_i v1), some (pm_i v2)] [] (mm x R Z Y o A c G g) Q) (k2 : ¬ (vs0 = 0) → pW ns d 96 11 [some (pm_r 20 0), some (pm_i v1), some (pm_i v2)] [] (mm x R Z Y o A c G g) Q) : pW ns d 96 6 [some (pm_r 20 0), some (pm_i v1), some (pm_i v2)] [pm_i vs0] (mm x R Z Y o A c G g) Q := by
  exact pW_if 1 (c := vs0 = 0) (fun call n => rfl) k1 k2
set_option maxRecDepth 20000 in
theorem b96_9 (hR : RS R) {u0 : Option pm_V} {u1 : Option pm_V} {u2 : Option pm_V}   (k : Q (.inl (some (pm_i (nI 0))), (mm x R Z Y o A c G g))) : pW ns d 96 9 [u0, u1, u2] [] (mm x R Z Y o A c G g) Q := by
  refine pW_ret 2 (fun call n => ?_) k
  rfl
set_option maxRecDepth 20000 in
theorem b96_11 (hR : RS R) {v1 : Int32} {v2 : Int32}  {x2 : Nat} {o2 : Int64} {A2 : Nat → Nat → Nat → Int32} {c2 : Nat → Int64} {G2 : Nat → Nat → Int32} {g2 : Nat → Int64} {y : Int32} (hE : pE ns d 53 [pm_r 20 0, pm_i v2] (mm x R Z Y o A c G g) (.inl (some (pm_i y)), (mm x2 R Z Y o2 A2 c2 G2 g2))) (k : pW ns d 96 16 [some (pm_r 20 0), some (pm_i v1), some (pm_i v2)] [pm_i y] (mm x2 R Z Y o2 A2 c2 G2 g2) Q) : pW ns d 96 11 [some (pm_r 20 0), some (pm_i v1), some (pm_i v2)] [] (mm x R Z Y o A c G g) Q := by
  refine pW_call (pc' := 13) (r := []) (L' := [some (pm_r 20 0), some (pm_i v1), some (pm_i v2)]) 3 (fun call n => ?_) hE k
  exact Eq.trans (b := pm_g (mm x R Z Y o A c G g) 20 0 (pm_cl call 96 (pm_go call ns d 96 n) 13 53 [pm_r 20 0, pm_i v2] [] [some (pm_r 20 0), some (pm_i v1), some (pm_i v2)] (mm x R Z Y o A c G g))) rfl (g_ok (f := 20) (by decide) rfl)
set_option maxRecDepth 20000 in
theorem b96_16 (hR : RS R) {v1 : Int32} {v2 : Int32} {vs0 : Int32}   (k1 : vs0 = 0 → pW ns d 96 36 [some (pm_r 20 0), some (pm_i v1), some (pm_i v2)] [] (mm x R Z Y o A c G g) Q) (k2 : ¬ (vs0 = 0) → pW ns d 96 19 [some (pm_r 20 0), some (pm_i v1), some (pm_i v2)] [] (mm x R Z Y o A c G g) Q) : pW ns d 96 16 [some (pm_r 20 0), some (pm_i v1), some (pm_i v2)] [pm_i vs0] (mm x R Z Y o A c G g) Q := by
  exact pW_if 1 (c := vs0 = 0) (fun call n => rfl) k1 k2
set_option maxRecDepth 20000 in
theorem b96_36 (hR : RS R) {u0 : Option pm_V} {u1 : Option pm_V} {u2 : Option pm_V}   (k : Q (.inl (some (pm_i (-nI 7))), (mm x R Z Y o A c G g))) : pW ns d 96 36 [u0, u1, u2] [] (mm x R Z Y o A c G g) Q := by
  refine pW_ret 2 (fun call n => ?_) k
  rfl
set_option maxRecDepth 20000 in
theorem b96_19 (hR : RS R) {v1 : Int32} {v2 : Int32}   (k1 : v1 = 0 → pW ns d 96 39 [some (pm_r 20 0), some (pm_i v1), some (pm_i v2)] [] (mm x R Z Y o A c G g) Q) (k2 : ¬ (v1 = 0) → pW ns d 96 23 [some (pm_r 20 0), some (pm_i v1), some (pm_i v2)] [] (mm x R Z Y o A c G g) Q) : pW ns d 96 19 [some (pm_r 20 0), some (pm_i v1), some (pm_i v2)] [] (mm x R Z Y o A c G g) Q := by
  exact pW_if 2 (c := v1 = 0) (fun call n => rfl) k1 k2
set_option maxRecDepth 20000 in
theorem b96_39 (hR : RS R) {u1 : Option pm_V} {v2 : Int32}  {x2 : Nat} {o2 : Int64} {A2 : Nat → Nat → Nat → Int32} {c2 : Nat → Int64} {G2 : Nat → Nat → Int32} {g2 : Nat → Int64}  (hE : pE ns d 72 [pm_r 20 0] (mm x R Z Y o A c (pm_v G 20 25 v2) g) (.inl (none), (mm x2 R Z Y o2 A2 c2 G2 g2))) (k : pW ns d 96 48 [some (pm_r 20 0), u1, some (pm_i v2)] [] (mm x2 R Z Y o2 A2 c2 G2 g2) Q) : pW ns d 96 39 [some (pm_r 20 0), u1, some (pm_i v2)] [] (mm x R Z Y o A c G g) Q := by
  refine pW_eq 3 (pc' := 44) (L' := [some (pm_r 20 0), u1, some (pm_i v2)]) (S' := []) (M' := (mm x R Z Y o A c (pm_v G 20 25 v2) g)) (fun call n => ?_) ?_
  · refine Eq.trans (b := pm_g (mm x R Z Y o A c G g) 20 0 (pm_go call ns d 96 n 44 [some (pm_r 20 0), u1, some (pm_i v2)] [] (pm_u (mA Z A G) 20 0 25 v2, mB Y o c g, R, pm_tot, x))) rfl ?_
    refine (g_ok (f := 20) (by decide) rfl).trans ?_
    exact (congrArg (fun z => pm_go call ns d 96 n 44 [some (pm_r 20 0), u1, some (pm_i v2)] [] (z, mB Y o c g, R, pm_tot, x)) (uG (by decide)))
  refine pW_call (pc' := 45) (r := []) (L' := [some (pm_r 20 0), u1, some (pm_i v2)]) 2 (fun call n => ?_) hE k
  exact Eq.trans (b := pm_g (mm x R Z Y o A c (pm_v G 20 25 v2) g) 20 0 (pm_cl call 96 (pm_go call ns d 96 n) 45 72 [pm_r 20 0] [] [some (pm_r 20 0), u1, some (pm_i v2)] (mm x R Z Y o A c (pm_v G 20 25 v2) g))) rfl (g_ok (f := 20) (by decide) rfl)
set_option maxRecDepth 20000 in
theorem b96_23 (hR : RS R) {v1 : Int32} {v2 : Int32} {j1 : Nat} (e1 : v1 = nI j1) (l1 : j1 < 8)  (k1 : G 23 j1 = G 20 25 → pW ns d 96 39 [some (pm_r 20 0), some (pm_i v1), some (pm_i v2)] [] (mm x R Z Y o A c G g) Q) (k2 : ¬ (G 23 j1 = G 20 25) → pW ns d 96 36 [some (pm_r 20 0), some (pm_i v1), some (pm_i v2)] [] (mm x R Z Y o A c G g) Q) : pW ns d 96 23 [some (pm_r 20 0), some (pm_i v1), some (pm_i v2)] [] (mm x R Z Y o A c G g) Q := by
  refine pW_eq 2 (pc' := 27) (L' := [some (pm_r 20 0), some (pm_i v1), some (pm_i v2)]) (S' := [pm_r 23 0]) (M' := (mm x R Z Y o A c G g)) (fun call n => ?_) ?_
  · refine Eq.trans (b := pm_g (mm x R Z Y o A c G g) 20 0 (pm_go call ns d 96 n 27 [some (pm_r 20 0), some (pm_i v1), some (pm_i v2)] [pm_a (R 20 0 3)] (mm x R Z Y o A c G g))) rfl ?_
    refine (g_ok (f := 20) (by decide) rfl).trans ?_
    exact (congrArg (fun z => pm_go call ns d 96 n 27 [some (pm_r 20 0), some (pm_i v1), some (pm_i v2)] [pm_a z] (mm x R Z Y o A c G g)) (rs_20_3 hR))
  refine pW_eq 2 (pc' := 29) (L' := [some (pm_r 20 0), some (pm_i v1), some (pm_i v2)]) (S' := [pm_i (G 23 j1)]) (M' := (mm x R Z Y o A c G g)) (fun call n => ?_) ?_
  · refine Eq.trans (b := pm_g (mm x R Z Y o A c G g) 23 0 (pm_ix (v1) 8 (fun jx => pm_go call ns d 96 n 29 [some (pm_r 20 0), some (pm_i v1), some (pm_i v2)] [pm_i (G 23 jx)] (mm x R Z Y o A c G g)))) rfl ?_
    refine (g_ok (f := 23) (by decide) rfl).trans ?_
    refine (ix_ok (j := j1) e1 l1 (by decide)).trans ?_
    rfl
  refine pW_eq 2 (pc' := 33) (L' := [some (pm_r 20 0), some (pm_i v1), some (pm_i v2)]) (S' := [pm_i (G 20 25), pm_i (G 23 j1)]) (M' := (mm x R Z Y o A c G g)) (fun call n => ?_) ?_
  · refine Eq.trans (b := pm_g (mm x R Z Y o A c G g) 20 0 (pm_go call ns d 96 n 33 [some (pm_r 20 0), some (pm_i v1), some (pm_i v2)] [pm_i (G 20 25), pm_i (G 23 j1)] (mm x R Z Y o A c G g))) rfl ?_
    refine (g_ok (f := 20) (by decide) rfl).trans ?_
    rfl
  exact pW_if 1 (c := G 23 j1 = G 20 25) (fun call n => rfl) k1 k2
set_option maxRecDepth 20000 in
theorem b96_48 (hR : RS R) {u0 : Option pm_V} {u1 : Option pm_V} {u2 : Option pm_V}   (k : Q (.inl (some (pm_i (nI 0))), (mm x R Z Y o A c G g))) : pW ns d 96 48 [u0, u1, u2] [] (mm x R Z Y o A c G g) Q := by
  refine pW_ret 2 (fun call n => ?_) k
  rfl
set_option maxRecDepth 20000 in
theorem t96_6 (hR : RS R) {v1 : Int32} {v2 : Int32} {vs0 : Int32}  (k1 : (vs0 = 0) → Q (.inl (some (pm_i (nI 0))), (mm x R Z Y o A c G g))) (k2 : (¬ (vs0 = 0)) → pW ns d 96 11 [some (pm_r 20 0), some (pm_i v1), some (pm_i v2)] [] (mm x R Z Y o A c G g) Q) : pW ns d 96 6 [some (pm_r 20 0), some (pm_i v1), some (pm_i v2)] [pm_i vs0] (mm x R Z Y o A c G g) Q := by
  refine b96_6 hR  (fun h1 => ?_) (fun h1 => ?_)
  · skip
    exact b96_9 hR   (k1 h1)
  · skip
    exact (k2 h1)
set_option maxRecDepth 20000 in
theorem t96_16 (hR : RS R) {v1 : Int32} {v2 : Int32} {vs0 : Int32}  (k1 : (vs0 = 0) → Q (.inl (some (pm_i (-nI 7))), (mm x R Z Y o A c G g))) (k2 : (¬ (vs0 = 0)) → (v1 = 0) → pW ns d 96 39 [some (pm_r 20 0), some (pm_i v1), some (pm_i v2)] [] (mm x R Z Y o A c G g) Q) (k3 : (¬ (vs0 = 0)) → (¬ (v1 = 0)) → pW ns d 96 23 [some (pm_r 20 0), some (pm_i v1), some (pm_i v2)] [] (mm x R Z Y o A c G g) Q) : pW ns d 96 16 [some (pm_r 20 0), some (pm_i v1), some (pm_i v2)] [pm_i vs0] (mm x R Z Y o A c G g) Q := by
  refine b96_16 hR  (fun h1 => ?_) (fun h1 => ?_)
  · skip
    exact b96_36 hR   (k1 h1)
  · skip
    refine b96_19 hR   (fun h2 => ?_) (fun h2 => ?_)
    · skip
      exact (k2 h1 h2)
    · skip
      exact (k3 h1 h2)
set_option maxRecDepth 20000 in
theorem t96_19 (hR : RS R) {v1 : Int32} {v2 : Int32}  (k1 : (v1 = 0) → pW ns d 96 39 [some (pm_r 20 0), some (pm_i v1), some (pm_i v2)] [] (mm x R Z Y o A c G g) Q) (k2 : (¬ (v1 = 0)) → pW ns d 96 23 [some (pm_r 20 0), some (pm_i v1), some (pm_i v2)] [] (mm x R Z Y o A c G g) Q) : pW ns d 96 19 [some (pm_r 20 0), some (pm_i v1), some (pm_i v2)] [] (mm x R Z Y o A c G g) Q := by
  refine b96_19 hR  (fun h1 => ?_) (fun h1 => ?_)
  · skip
    exact (k1 h1)
  · skip
    exact (k2 h1)
set_option maxRecDepth 20000 in
theorem t96_23 (hR : RS R) {v1 : Int32} {v2 : Int32} {j1 : Nat} (e1 : v1 = nI j1) (l1 : j1 < 8) (k1 : (G 23 j1 = G 20 25) → pW ns d 96 39 [some (pm_r 20 0), some (pm_i v1), some (pm_i v2)] [] (mm x R Z Y o A c G g) Q) (k2 : (¬ (G 23 j1 = G 20 25)) → Q (.inl (some (pm_i (-nI 7))), (mm x R Z Y o A c G g))) : pW ns d 96 23 [some (pm_r 20 0), some (pm_i v1), some (pm_i v2)] [] (mm x R Z Y o A c G g) Q := by
  refine b96_23 hR e1 l1 (fun h1 => ?_) (fun h1 => ?_)
  · skip
    exact (k1 h1)
  · skip
    exact b96_36 hR   (k2 h1)
/-! 97 JobLayerModel.kindOf -/
set_option maxRecDepth 20000 in
theorem b97_0 (hR : RS R) {v0 : Int32}   (k1 : nI 2 ≤ v0 → pW ns d 97 9 [some (pm_i v0)] [] (mm x R Z Y o A c G g) Q) (k2 : ¬ (nI 2 ≤ v0) → pW ns d 97 5 [some (pm_i v0)] [] (mm x R Z Y o A c G g) Q) : pW ns d 97 0 [some (pm_i v0)] [] (mm x R Z Y o A c G g) Q := by
  exact pW_if 3 (c := nI 2 ≤ v0) (fun call n => rfl) k1 k2
set_option maxRecDepth 20000 in
theorem b97_9 (hR : RS R) {v0 : Int32}   (k : Q (.inl (some (pm_i ((nI 2) + (v0 - v0 / (nI 2) * (nI 2))))), (mm x R Z Y o A c G g))) : pW ns d 97 9 [some (pm_i v0)] [] (mm x R Z Y o A c G g) Q := by
  refine pW_eq 4 (pc' := 13) (L' := [some (pm_i v0)]) (S' := [pm_i (v0 - v0 / (nI 2) * (nI 2)), pm_i (nI 2)]) (M' := (mm x R Z Y o A c G g)) (fun call n => ?_) ?_
  · refine Eq.trans (b := if (nI 2) = 0 then none else pm_go call ns d 97 n 13 [some (pm_i v0)] [pm_i (v0 - v0 / (nI 2) * (nI 2)), pm_i (nI 2)] (mm x R Z Y o A c G g)) rfl ?_
    refine (if_neg (by decide)).trans ?_
    rfl
  refine pW_ret 2 (fun call n => ?_) k
  rfl
set_option maxRecDepth 20000 in
theorem b97_5 (hR : RS R) {v0 : Int32}   (k : Q (.inl (some (pm_i v0)), (mm x R Z Y o A c G g))) : pW ns d 97 5 [some (pm_i v0)] [] (mm x R Z Y o A c G g) Q := by
  refine pW_ret 3 (fun call n => ?_) k
  rfl
set_option maxRecDepth 20000 in
theorem t97_0 (hR : RS R) {v0 : Int32}  (k1 : (nI 2 ≤ v0) → Q (.inl (some (pm_i ((nI 2) + (v0 - v0 / (nI 2) * (nI 2))))), (mm x R Z Y o A c G g))) (k2 : (¬ (nI 2 ≤ v0)) → Q (.inl (some (pm_i v0)), (mm x R Z Y o A c G g))) : pW ns d 97 0 [some (pm_i v0)] [] (mm x R Z Y o A c G g) Q := by
  refine b97_0 hR  (fun h1 => ?_) (fun h1 => ?_)
  · skip
    exact b97_9 hR   (k1 h1)
  · skip
    exact b97_5 hR   (k2 h1)
/-! 98 JobLayerModel.process -/
set_option maxRecDepth 20000 in
theorem b98_0 (hR : RS R) {v1 : Int32} {v2 : Int32}  {x2 : Nat} {o2 : Int64} {A2 : Nat → Nat → Nat → Int32} {c2 : Nat → Int64} {G2 : Nat → Nat → Int32} {g2 : Nat → Int64} {y : Int32} (hE : pE ns d 47 [pm_r 20 0, pm_i v1] (mm x R Z Y o A c (pm_v G 20 0 (nI 0)) g) (.inl (some (pm_i y)), (mm x2 R Z Y o2 A2 c2 G2 g2))) (k : pW ns d 98 10 [some (pm_r 20 0), some (pm_i v1), some (pm_i v2)] [pm_i y] (mm x2 R Z Y o2 A2 c2 G2 g2) Q) : pW ns d 98 0 [some (pm_r 20 0), some (pm_i v1), some (pm_i v2)] [] (mm x R Z Y o A c G g) Q := by
  refine pW_eq 3 (pc' := 5) (L' := [some (pm_r 20 0), some (pm_i v1), some (pm_i v2)]) (S' := []) (M' := (mm x R Z Y o A c (pm_v G 20 0 (nI 0)) g)) (fun call n => ?_) ?_
  · refine Eq.trans (b := pm_g (mm x R Z Y o A c G g) 20 0 (pm_go call ns d 98 n 5 [some (pm_r 20 0), some (pm_i v1), some (pm_i v2)] [] (pm_u (mA Z A G) 20 0 0 (nI 0), mB Y o c g, R, pm_tot, x))) rfl ?_
    refine (g_ok (f := 20) (by decide) rfl).trans ?_
    exact (congrArg (fun z => pm_go call ns d 98 n 5 [some (pm_r 20 0), some (pm_i v1), some (pm_i v2)] [] (z, mB Y o c g, R, pm_tot, x)) (uG (by decide)))
  refine pW_call (pc' := 7) (r := []) (L' := [some (pm_r 20 0), some (pm_i v1), some (pm_i v2)]) 3 (fun call n => ?_) hE k
  exact Eq.trans (b := pm_g (mm x R Z Y o A c (pm_v G 20 0 (nI 0)) g) 20 0 (pm_cl call 98 (pm_go call ns d 98 n) 7 47 [pm_r 20 0, pm_i v1] [] [some (pm_r 20 0), some (pm_i v1), some (pm_i v2)] (mm x R Z Y o A c (pm_v G 20 0 (nI 0)) g))) rfl (g_ok (f := 20) (by decide) rfl)
set_option maxRecDepth 20000 in
theorem b98_10 (hR : RS R) {v1 : Int32} {v2 : Int32} {vs0 : Int32}   (k1 : vs0 = 0 → pW ns d 98 22 [some (pm_r 20 0), some (pm_i v1), some (pm_i v2)] [] (mm x R Z Y o A c G g) Q) (k2 : ¬ (vs0 = 0) → pW ns d 98 13 [some (pm_r 20 0), some (pm_i v1), some (pm_i v2)] [] (mm x R Z Y o A c G g) Q) : pW ns d 98 10 [some (pm_r 20 0), some (pm_i v1), some (pm_i v2)] [pm_i vs0] (mm x R Z Y o A c G g) Q := by
  exact pW_if 1 (c := vs0 = 0) (fun call n => rfl) k1 k2
set_option maxRecDepth 20000 in
theorem b98_22 (hR : RS R) {u0 : Option pm_V} {u1 : Option pm_V} {u2 : Option pm_V}   (k : Q (.inl (some (pm_i (-nI 1))), (mm x R Z Y o A c G g))) : pW ns d 98 22 [u0, u1, u2] [] (mm x R Z Y o A c G g) Q := by
  refine pW_ret 2 (fun call n => ?_) k
  rfl
set_option maxRecDepth 20000 in
theorem b98_13 (hR : RS R) {v1 : Int32} {v2 : Int32} {j1 : Nat} (e1 : v1 = nI j1) (l1 : j1 < 8)  (k1 : G 21 j1 = 0 → pW ns d 98 22 [some (pm_r 20 0), some (pm_i v1), some (pm_i v2)] [] (mm x R Z Y o A c G g) Q) (k2 : ¬ (G 21 j1 = 0) → pW ns d 98 24 [some (pm_r 20 0), some (pm_i v1), some (pm_i v2)] [] (mm x R Z Y o A c G g) Q) : pW ns d 98 13 [some (pm_r 20 0), some (pm_i v1), some (pm_i v2)] [] (mm x R Z Y o A c G g) Q := by
  refine pW_eq 2 (pc' := 17) (L' := [some (pm_r 20 0), some (pm_i v1), some (pm_i v2)]) (S' := [pm_r 21 0]) (M' := (mm x R Z Y o A c G g)) (fun call n => ?_) ?_
  · refine Eq.trans (b := pm_g (mm x R Z Y o A c G g) 20 0 (pm_go call ns d 98 n 17 [some (pm_r 20 0), some (pm_i v1), some (pm_i v2)] [pm_a (R 20 0 1)] (mm x R Z Y o A c G g))) rfl ?_
    refine (g_ok (f := 20) (by decide) rfl).trans ?_
    exact (congrArg (fun z => pm_go call ns d 98 n 17 [some (pm_r 20 0), some (pm_i v1), some (pm_i v2)] [pm_a z] (mm x R Z Y o A c G g)) (rs_20_1 hR))
  refine pW_eq 2 (pc' := 19) (L' := [some (pm_r 20 0), some (pm_i v1), some (pm_i v2)]) (S' := [pm_i (G 21 j1)]) (M' := (mm x R Z Y o A c G g)) (fun call n => ?_) ?_
  · refine Eq.trans (b := pm_g (mm x R Z Y o A c G g) 21 0 (pm_ix (v1) 8 (fun jx => pm_go call ns d 98 n 19 [some (pm_r 20 0), some (pm_i v1), some (pm_i v2)] [pm_i (G 21 jx)] (mm x R Z Y o A c G g)))) rfl ?_
    refine (g_ok (f := 21) (by decide) rfl).trans ?_
    refine (ix_ok (j := j1) e1 l1 (by decide)).trans ?_
    rfl
  exact pW_if 1 (c := G 21 j1 = 0) (fun call n => rfl) k1 k2
set_option maxRecDepth 20000 in
theorem b98_24 (hR : RS R) {v1 : Int32} {v2 : Int32}   (k1 : v2 < nI 10 → pW ns d 98 54 [some (pm_r 20 0), some (pm_i v1), some (pm_i v2)] [] (mm x R Z Y o A c G g) Q) (k2 : ¬ (v2 < nI 10) → pW ns d 98 30 [some (pm_r 20 0), some (pm_i v1), some (pm_i v2)] [] (mm x R Z Y o A c G g) Q) : pW ns d 98 24 [some (pm_r 20 0), some (pm_i v1), some (pm_i v2)] [] (mm x R Z Y o A c G g) Q := by
  exact pW_if 3 (c := v2 < nI 10) (fun call n => rfl) k1 k2
set_option maxRecDepth 20000 in
theorem b98_54 (hR : RS R) {v1 : Int32} {v2 : Int32}   (k1 : v2 ≤ nI 20 → pW ns d 98 81 [some (pm_r 20 0), some (pm_i v1), some (pm_i v2)] [] (mm x R Z Y o A c G g) Q) (k2 : ¬ (v2 ≤ nI 20) → pW ns d 98 60 [some (pm_r 20 0), some (pm_i v1), some (pm_i v2)] [] (mm x R Z Y o A c G g) Q) : pW ns d 98 54 [some (pm_r 20 0), some (pm_i v1), some (pm_i v2)] [] (mm x R Z Y o A c G g) Q := by
  exact pW_if 3 (c := v2 ≤ nI 20) (fun call n => rfl) k1 k2
set_option maxRecDepth 20000 in
theorem b98_30 (hR : RS R) {v1 : Int32} {v2 : Int32}   (k1 : nI 16 ≤ v2 → pW ns d 98 54 [some (pm_r 20 0), some (pm_i v1), some (pm_i v2)] [] (mm x R Z Y o A c G g) Q) (k2 : ¬ (nI 16 ≤ v2) → pW ns d 98 36 [some (pm_r 20 0), some (pm_i v1), some (pm_i v2)] [] (mm x R Z Y o A c G g) Q) : pW ns d 98 30 [some (pm_r 20 0), some (pm_i v1), some (pm_i v2)] [] (mm x R Z Y o A c G g) Q := by
  exact pW_if 3 (c := nI 16 ≤ v2) (fun call n => rfl) k1 k2
set_option maxRecDepth 20000 in
theorem b98_81 (hR : RS R) {v1 : Int32} {v2 : Int32}   (k0 : v2.toInt = 0 → pW ns d 98 132 [some (pm_r 20 0), some (pm_i v1), some (pm_i v2)] [] (mm x R Z Y o A c G g) Q) (k1 : v2.toInt = 1 → pW ns d 98 139 [some (pm_r 20 0), some (pm_i v1), some (pm_i v2)] [] (mm x R Z Y o A c G g) Q) (k2 : v2.toInt = 2 → pW ns d 98 146 [some (pm_r 20 0), some (pm_i v1), some (pm_i v2)] [] (mm x R Z Y o A c G g) Q) (k3 : v2.toInt = 3 → pW ns d 98 153 [some (pm_r 20 0), some (pm_i v1), some (pm_i v2)] [] (mm x R Z Y o A c G g) Q) (k4 : v2.toInt = 4 → pW ns d 98 160 [some (pm_r 20 0), some (pm_i v1), some (pm_i v2)] [] (mm x R Z Y o A c G g) Q) (k5 : v2.toInt = 5 → pW ns d 98 167 [some (pm_r 20 0), some (pm_i v1), some (pm_i v2)] [] (mm x R Z Y o A c G g) Q) (k6 : v2.toInt = 6 → pW ns d 98 174 [some (pm_r 20 0), some (pm_i v1), some (pm_i v2)] [] (mm x R Z Y o A c G g) Q) (k7 : v2.toInt = 7 → pW ns d 98 181 [some (pm_r 20 0), some (pm_i v1), some (pm_i v2)] [] (mm x R Z Y o A c G g) Q) (k8 : v2.toInt = 8 → pW ns d 98 188 [some (pm_r 20 0), some (pm_i v1), some (pm_i v2)] [] (mm x R Z Y o A c G g) Q) (kd : ¬ v2.toInt = 0 → ¬ v2.toInt = 1 → ¬ v2.toInt = 2 → ¬ v2.toInt = 3 → ¬ v2.toInt = 4 → ¬ v2.toInt = 5 → ¬ v2.toInt = 6 → ¬ v2.toInt = 7 → ¬ v2.toInt = 8 → pW ns d 98 209 [some (pm_r 20 0), some (pm_i v1), some (pm_i v2)] [] (mm x R Z Y o A c G g) Q) : pW ns d 98 81 [some (pm_r 20 0), some (pm_i v1), some (pm_i v2)] [] (mm x R Z Y o A c G g) Q := by
  by_cases h0 : v2.toInt = 0
  · refine pW_eq 2 (fun call n => ?_) (k0 h0)
    refine Eq.trans (b := pm_sw (v2.toInt) (0) [50, 57, 64, 71, 78, 85, 92, 99, 106] 127 (fun oo => pm_j 82 oo fun tt => pm_go call ns d 98 n tt [some (pm_r 20 0), some (pm_i v1), some (pm_i v2)] [] (mm x R Z Y o A c G g))) rfl ?_
    rw [h0]
    rfl
  by_cases h1 : v2.toInt = 1
  · refine pW_eq 2 (fun call n => ?_) (k1 h1)
    refine Eq.trans (b := pm_sw (v2.toInt) (0) [50, 57, 64, 71, 78, 85, 92, 99, 106] 127 (fun oo => pm_j 82 oo fun tt => pm_go call ns d 98 n tt [some (pm_r 20 0), some (pm_i v1), some (pm_i v2)] [] (mm x R Z Y o A c G g))) rfl ?_
    rw [h1]
    rfl
  by_cases h2 : v2.toInt = 2
  · refine pW_eq 2 (fun call n => ?_) (k2 h2)
    refine Eq.trans (b := pm_sw (v2.toInt) (0) [50, 57, 64, 71, 78, 85, 92, 99, 106] 127 (fun oo => pm_j 82 oo fun tt => pm_go call ns d 98 n tt [some (pm_r 20 0), some (pm_i v1), some (pm_i v2)] [] (mm x R Z Y o A c G g))) rfl ?_
    rw [h2]
    rfl
  by_cases h3 : v2.toInt = 3
  · refine pW_eq 2 (fun call n => ?_) (k3 h3)
    refine Eq.trans (b := pm_sw (v2.toInt) (0) [50, 57, 64, 71, 78, 85, 92, 99, 106] 127 (fun oo => pm_j 82 oo fun tt => pm_go call ns d 98 n tt [some (pm_r 20 0), some (pm_i v1), some (pm_i v2)] [] (mm x R Z Y o A c G g))) rfl ?_
    rw [h3]
    rfl
  by_cases h4 : v2.toInt = 4
  · refine pW_eq 2 (fun call n => ?_) (k4 h4)
    refine Eq.trans (b := pm_sw (v2.toInt) (0) [50, 57, 64, 71, 78, 85, 92, 99, 106] 127 (fun oo => pm_j 82 oo fun tt => pm_go call ns d 98 n tt [some (pm_r 20 0), some (pm_i v1), some (pm_i v2)] [] (mm x R Z Y o A c G g))) rfl ?_
    rw [h4]
    rfl
  by_cases h5 : v2.toInt = 5
  · refine pW_eq 2 (fun call n => ?_) (k5 h5)
    refine Eq.trans (b := pm_sw (v2.toInt) (0) [50, 57, 64, 71, 78, 85, 92, 99, 106] 127 (fun oo => pm_j 82 oo fun tt => pm_go call ns d 98 n tt [some (pm_r 20 0), some (pm_i v1), some (pm_i v2)] [] (mm x R Z Y o A c G g))) rfl ?_
    rw [h5]
    rfl
  by_cases h6 : v2.toInt = 6
  · refine pW_eq 2 (fun call n => ?_) (k6 h6)
    refine Eq.trans (b := pm_sw (v2.toInt) (0) [50, 57, 64, 71, 78, 85, 92, 99, 106] 127 (fun oo => pm_j 82 oo fun tt => pm_go call ns d 98 n tt [some (pm_r 20 0), some (pm_i v1), some (pm_i v2)] [] (mm x R Z Y o A c G g))) rfl ?_
    rw [h6]
    rfl
  by_cases h7 : v2.toInt = 7
  · refine pW_eq 2 (fun call n => ?_) (k7 h7)
    refine Eq.trans (b := pm_sw (v2.toInt) (0) [50, 57, 64, 71, 78, 85, 92, 99, 106] 127 (fun oo => pm_j 82 oo fun tt => pm_go call ns d 98 n tt [some (pm_r 20 0), some (pm_i v1), some (pm_i v2)] [] (mm x R Z Y o A c G g))) rfl ?_
    rw [h7]
    rfl
  by_cases h8 : v2.toInt = 8
  · refine pW_eq 2 (fun call n => ?_) (k8 h8)
    refine Eq.trans (b := pm_sw (v2.toInt) (0) [50, 57, 64, 71, 78, 85, 92, 99, 106] 127 (fun oo => pm_j 82 oo fun tt => pm_go call ns d 98 n tt [some (pm_r 20 0), some (pm_i v1), some (pm_i v2)] [] (mm x R Z Y o A c G g))) rfl ?_
    rw [h8]
    rfl
  refine pW_eq 2 (fun call n => ?_) (kd h0 h1 h2 h3 h4 h5 h6 h7 h8)
  refine Eq.trans (b := pm_sw (v2.toInt) (0) [50, 57, 64, 71, 78, 85, 92, 99, 106] 127 (fun oo => pm_j 82 oo fun tt => pm_go call ns d 98 n tt [some (pm_r 20 0), some (pm_i v1), some (pm_i v2)] [] (mm x R Z Y o A c G g))) rfl ?_
  refine (if_neg h0).trans ?_
  refine (if_neg h1).trans ?_
  refine (if_neg h2).trans ?_
  refine (if_neg h3).trans ?_
  refine (if_neg h4).trans ?_
  refine (if_neg h5).trans ?_
  refine (if_neg h6).trans ?_
  refine (if_neg h7).trans ?_
  refine (if_neg h8).trans ?_
  rfl
set_option maxRecDepth 20000 in
theorem b98_60 (hR : RS R) {v1 : Int32} {v2 : Int32}   (k1 : nI 28 ≤ v2 → pW ns d 98 81 [some (pm_r 20 0), some (pm_i v1), some (pm_i v2)] [] (mm x R Z Y o A c G g) Q) (k2 : ¬ (nI 28 ≤ v2) → pW ns d 98 66 [some (pm_r 20 0), some (pm_i v1), some (pm_i v2)] [] (mm x R Z Y o A c G g) Q) : pW ns d 98 60 [some (pm_r 20 0), some (pm_i v1), some (pm_i v2)] [] (mm x R Z Y o A c G g) Q := by
  exact pW_if 3 (c := nI 28 ≤ v2) (fun call n => rfl) k1 k2
set_option maxRecDepth 20000 in
theorem b98_36 (hR : RS R) {v1 : Int32} {v2 : Int32} {j1 : Nat} (e1 : (((nI 6) * v1) + v2) - (nI 10) = nI j1) (l1 : j1 < 48) {x2 : Nat} {o2 : Int64} {A2 : Nat → Nat → Nat → Int32} {c2 : Nat → Int64} {G2 : Nat → Nat → Int32} {g2 : Nat → Int64} {y : Int32} (hE : pE ns d 97 [pm_i (G 32 j1)] (mm x R Z Y o A c G g) (.inl (some (pm_i y)), (mm x2 R Z Y o2 A2 c2 G2 g2))) (k : pW ns d 98 53 [some (pm_r 20 0), some (pm_i v1), some (pm_i v2)] [pm_i y] (mm x2 R Z Y o2 A2 c2 G2 g2) Q) : pW ns d 98 36 [some (pm_r 20 0), some (pm_i v1), some (pm_i v2)] [] (mm x R Z Y o A c G g) Q := by
  refine pW_eq 2 (pc' := 40) (L' := [some (pm_r 20 0), some (pm_i v1), some (pm_i v2)]) (S' := [pm_r 32 0]) (M' := (mm x R Z Y o A c G g)) (fun call n => ?_) ?_
  · refine Eq.trans (b := pm_g (mm x R Z Y o A c G g) 20 0 (pm_go call ns d 98 n 40 [some (pm_r 20 0), some (pm_i v1), some (pm_i v2)] [pm_a (R 20 0 12)] (mm x R Z Y o A c G g))) rfl ?_
    refine (g_ok (f := 20) (by decide) rfl).trans ?_
    exact (congrArg (fun z => pm_go call ns d 98 n 40 [some (pm_r 20 0), some (pm_i v1), some (pm_i v2)] [pm_a z] (mm x R Z Y o A c G g)) (rs_20_12 hR))
  refine pW_eq 8 (pc' := 50) (L' := [some (pm_r 20 0), some (pm_i v1), some (pm_i v2)]) (S' := [pm_i (G 32 j1)]) (M' := (mm x R Z Y o A c G g)) (fun call n => ?_) ?_
  · refine Eq.trans (b := pm_g (mm x R Z Y o A c G g) 32 0 (pm_ix ((((nI 6) * v1) + v2) - (nI 10)) 48 (fun jx => pm_go call ns d 98 n 50 [some (pm_r 20 0), some (pm_i v1), some (pm_i v2)] [pm_i (G 32 jx)] (mm x R Z Y o A c G g)))) rfl ?_
    refine (g_ok (f := 32) (by decide) rfl).trans ?_
    refine (ix_ok (j := j1) e1 l1 (by decide)).trans ?_
    rfl
  refine pW_call (pc' := 50) (r := []) (L' := [some (pm_r 20 0), some (pm_i v1), some (pm_i v2)]) 1 (fun call n => ?_) hE k
  rfl
set_option maxRecDepth 20000 in
theorem b98_132 (hR : RS R) {v1 : Int32} {u2 : Option pm_V} {j1 : Nat} (e1 : v1 = nI j1) (l1 : j1 < 8)  (k : Q (.inl (some (pm_i (G 21 j1))), (mm x R Z Y o A c G g))) : pW ns d 98 132 [some (pm_r 20 0), some (pm_i v1), u2] [] (mm x R Z Y o A c G g) Q := by
  refine pW_eq 2 (pc' := 136) (L' := [some (pm_r 20 0), some (pm_i v1), u2]) (S' := [pm_r 21 0]) (M' := (mm x R Z Y o A c G g)) (fun call n => ?_) ?_
  · refine Eq.trans (b := pm_g (mm x R Z Y o A c G g) 20 0 (pm_go call ns d 98 n 136 [some (pm_r 20 0), some (pm_i v1), u2] [pm_a (R 20 0 1)] (mm x R Z Y o A c G g))) rfl ?_
    refine (g_ok (f := 20) (by decide) rfl).trans ?_
    exact (congrArg (fun z => pm_go call ns d 98 n 136 [some (pm_r 20 0), some (pm_i v1), u2] [pm_a z] (mm x R Z Y o A c G g)) (rs_20_1 hR))
  refine pW_eq 2 (pc' := 138) (L' := [some (pm_r 20 0), some (pm_i v1), u2]) (S' := [pm_i (G 21 j1)]) (M' := (mm x R Z Y o A c G g)) (fun call n => ?_) ?_
  · refine Eq.trans (b := pm_g (mm x R Z Y o A c G g) 21 0 (pm_ix (v1) 8 (fun jx => pm_go call ns d 98 n 138 [some (pm_r 20 0), some (pm_i v1), u2] [pm_i (G 21 jx)] (mm x R Z Y o A c G g)))) rfl ?_
    refine (g_ok (f := 21) (by decide) rfl).trans ?_
    refine (ix_ok (j := j1) e1 l1 (by decide)).trans ?_
    rfl
  refine pW_ret 1 (fun call n => ?_) k
  rfl
set_option maxRecDepth 20000 in
theorem b98_139 (hR : RS R) {v1 : Int32} {u2 : Option pm_V} {j1 : Nat} (e1 : v1 = nI j1) (l1 : j1 < 8)  (k : Q (.inl (some (pm_i (G 22 j1))), (mm x R Z Y o A c G g))) : pW ns d 98 139 [some (pm_r 20 0), some (pm_i v1), u2] [] (mm x R Z Y o A c G g) Q := by
  refine pW_eq 2 (pc' := 143) (L' := [some (pm_r 20 0), some (pm_i v1), u2]) (S' := [pm_r 22 0]) (M' := (mm x R Z Y o A c G g)) (fun call n => ?_) ?_
  · refine Eq.trans (b := pm_g (mm x R Z Y o A c G g) 20 0 (pm_go call ns d 98 n 143 [some (pm_r 20 0), some (pm_i v1), u2] [pm_a (R 20 0 2)] (mm x R Z Y o A c G g))) rfl ?_
    refine (g_ok (f := 20) (by decide) rfl).trans ?_
    exact (congrArg (fun z => pm_go call ns d 98 n 143 [some (pm_r 20 0), some (pm_i v1), u2] [pm_a z] (mm x R Z Y o A c G g)) (rs_20_2 hR))
  refine pW_eq 2 (pc' := 145) (L' := [some (pm_r 20 0), some (pm_i v1), u2]) (S' := [pm_i (G 22 j1)]) (M' := (mm x R Z Y o A c G g)) (fun call n => ?_) ?_
  · refine Eq.trans (b := pm_g (mm x R Z Y o A c G g) 22 0 (pm_ix (v1) 8 (fun jx => pm_go call ns d 98 n 145 [some (pm_r 20 0), some (pm_i v1), u2] [pm_i (G 22 jx)] (mm x R Z Y o A c G g)))) rfl ?_
    refine (g_ok (f := 22) (by decide) rfl).trans ?_
    refine (ix_ok (j := j1) e1 l1 (by decide)).trans ?_
    rfl
  refine pW_ret 1 (fun call n => ?_) k
  rfl
set_option maxRecDepth 20000 in
theorem b98_146 (hR : RS R) {v1 : Int32} {u2 : Option pm_V} {j1 : Nat} (e1 : v1 = nI j1) (l1 : j1 < 8)  (k : Q (.inl (some (pm_i (G 23 j1))), (mm x R Z Y o A c G g))) : pW ns d 98 146 [some (pm_r 20 0), some (pm_i v1), u2] [] (mm x R Z Y o A c G g) Q := by
  refine pW_eq 2 (pc' := 150) (L' := [some (pm_r 20 0), some (pm_i v1), u2]) (S' := [pm_r 23 0]) (M' := (mm x R Z Y o A c G g)) (fun call n => ?_) ?_
  · refine Eq.trans (b := pm_g (mm x R Z Y o A c G g) 20 0 (pm_go call ns d 98 n 150 [some (pm_r 20 0), some (pm_i v1), u2] [pm_a (R 20 0 3)] (mm x R Z Y o A c G g))) rfl ?_
    refine (g_ok (f := 20) (by decide) rfl).trans ?_
    exact (congrArg (fun z => pm_go call ns d 98 n 150 [some (pm_r 20 0), some (pm_i v1), u2] [pm_a z] (mm x R Z Y o A c G g)) (rs_20_3 hR))
  refine pW_eq 2 (pc' := 152) (L' := [some (pm_r 20 0), some (pm_i v1), u2]) (S' := [pm_i (G 23 j1)]) (M' := (mm x R Z Y o A c G g)) (fun call n => ?_) ?_
  · refine Eq.trans (b := pm_g (mm x R Z Y o A c G g) 23 0 (pm_ix (v1) 8 (fun jx => pm_go call ns d 98 n 152 [some (pm_r 20 0), some (pm_i v1), u2] [pm_i (G 23 jx)] (mm x R Z Y o A c G g)))) rfl ?_
    refine (g_ok (f := 23) (by decide) rfl).trans ?_
    refine (ix_ok (j := j1) e1 l1 (by decide)).trans ?_
    rfl
  refine pW_ret 1 (fun call n => ?_) k
  rfl
set_option maxRecDepth 20000 in
theorem b98_153 (hR : RS R) {v1 : Int32} {u2 : Option pm_V} {j1 : Nat} (e1 : v1 = nI j1) (l1 : j1 < 8)  (k : Q (.inl (some (pm_i (G 24 j1))), (mm x R Z Y o A c G g))) : pW ns d 98 153 [some (pm_r 20 0), some (pm_i v1), u2] [] (mm x R Z Y o A c G g) Q := by
  refine pW_eq 2 (pc' := 157) (L' := [some (pm_r 20 0), some (pm_i v1), u2]) (S' := [pm_r 24 0]) (M' := (mm x R Z Y o A c G g)) (fun call n => ?_) ?_
  · refine Eq.trans (b := pm_g (mm x R Z Y o A c G g) 20 0 (pm_go call ns d 98 n 157 [some (pm_r 20 0), some (pm_i v1), u2] [pm_a (R 20 0 4)] (mm x R Z Y o A c G g))) rfl ?_
    refine (g_ok (f := 20) (by decide) rfl).trans ?_
    exact (congrArg (fun z => pm_go call ns d 98 n 157 [some (pm_r 20 0), some (pm_i v1), u2] [pm_a z] (mm x R Z Y o A c G g)) (rs_20_4 hR))
  refine pW_eq 2 (pc' := 159) (L' := [some (pm_r 20 0), some (pm_i v1), u2]) (S' := [pm_i (G 24 j1)]) (M' := (mm x R Z Y o A c G g)) (fun call n => ?_) ?_
  · refine Eq.trans (b := pm_g (mm x R Z Y o A c G g) 24 0 (pm_ix (v1) 8 (fun jx => pm_go call ns d 98 n 159 [some (pm_r 20 0), some (pm_i v1), u2] [pm_i (G 24 jx)] (mm x R Z Y o A c G g)))) rfl ?_
    refine (g_ok (f := 24) (by decide) rfl).trans ?_
    refine (ix_ok (j := j1) e1 l1 (by decide)).trans ?_
    rfl
  refine pW_ret 1 (fun call n => ?_) k
  rfl
set_option maxRecDepth 20000 in
theorem b98_160 (hR : RS R) {v1 : Int32} {u2 : Option pm_V} {j1 : Nat} (e1 : v1 = nI j1) (l1 : j1 < 8)  (k : Q (.inl (some (pm_i (G 25 j1))), (mm x R Z Y o A c G g))) : pW ns d 98 160 [some (pm_r 20 0), some (pm_i v1), u2] [] (mm x R Z Y o A c G g) Q := by
  refine pW_eq 2 (pc' := 164) (L' := [some (pm_r 20 0), some (pm_i v1), u2]) (S' := [pm_r 25 0]) (M' := (mm x R Z Y o A c G g)) (fun call n => ?_) ?_
  · refine Eq.trans (b := pm_g (mm x R Z Y o A c G g) 20 0 (pm_go call ns d 98 n 164 [some (pm_r 20 0), some (pm_i v1), u2] [pm_a (R 20 0 5)] (mm x R Z Y o A c G g))) rfl ?_
    refine (g_ok (f := 20) (by decide) rfl).trans ?_
    exact (congrArg (fun z => pm_go call ns d 98 n 164 [some (pm_r 20 0), some (pm_i v1), u2] [pm_a z] (mm x R Z Y o A c G g)) (rs_20_5 hR))
  refine pW_eq 2 (pc' := 166) (L' := [some (pm_r 20 0), some (pm_i v1), u2]) (S' := [pm_i (G 25 j1)]) (M' := (mm x R Z Y o A c G g)) (fun call n => ?_) ?_
  · refine Eq.trans (b := pm_g (mm x R Z Y o A c G g) 25 0 (pm_ix (v1) 8 (fun jx => pm_go call ns d 98 n 166 [some (pm_r 20 0), some (pm_i v1), u2] [pm_i (G 25 jx)] (mm x R Z Y o A c G g)))) rfl ?_
    refine (g_ok (f := 25) (by decide) rfl).trans ?_
    refine (ix_ok (j := j1) e1 l1 (by decide)).trans ?_
    rfl
  refine pW_ret 1 (fun call n => ?_) k
  rfl
set_option maxRecDepth 20000 in
theorem b98_167 (hR : RS R) {v1 : Int32} {u2 : Option pm_V} {j1 : Nat} (e1 : v1 = nI j1) (l1 : j1 < 8)  (k : Q (.inl (some (pm_i (G 26 j1))), (mm x R Z Y o A c G g))) : pW ns d 98 167 [some (pm_r 20 0), some (pm_i v1), u2] [] (mm x R Z Y o A c G g) Q := by
  refine pW_eq 2 (pc' := 171) (L' := [some (pm_r 20 0), some (pm_i v1), u2]) (S' := [pm_r 26 0]) (M' := (mm x R Z Y o A c G g)) (fun call n => ?_) ?_
  · refine Eq.trans (b := pm_g (mm x R Z Y o A c G g) 20 0 (pm_go call ns d 98 n 171 [some (pm_r 20 0), some (pm_i v1), u2] [pm_a (R 20 0 6)] (mm x R Z Y o A c G g))) rfl ?_
    refine (g_ok (f := 20) (by decide) rfl).trans ?_
    exact (congrArg (fun z => pm_go call ns d 98 n 171 [some (pm_r 20 0), some (pm_i v1), u2] [pm_a z] (mm x R Z Y o A c G g)) (rs_20_6 hR))
  refine pW_eq 2 (pc' := 173) (L' := [some (pm_r 20 0), some (pm_i v1), u2]) (S' := [pm_i (G 26 j1)]) (M' := (mm x R Z Y o A c G g)) (fun call n => ?_) ?_
  · refine Eq.trans (b := pm_g (mm x R Z Y o A c G g) 26 0 (pm_ix (v1) 8 (fun jx => pm_go call ns d 98 n 173 [some (pm_r 20 0), some (pm_i v1), u2] [pm_i (G 26 jx)] (mm x R Z Y o A c G g)))) rfl ?_
    refine (g_ok (f := 26) (by decide) rfl).trans ?_
    refine (ix_ok (j := j1) e1 l1 (by decide)).trans ?_
    rfl
  refine pW_ret 1 (fun call n => ?_) k
  rfl
set_option maxRecDepth 20000 in
theorem b98_174 (hR : RS R) {v1 : Int32} {u2 : Option pm_V} {j1 : Nat} (e1 : v1 = nI j1) (l1 : j1 < 8)  (k : Q (.inl (some (pm_i (G 27 j1))), (mm x R Z Y o A c G g))) : pW ns d 98 174 [some (pm_r 20 0), some (pm_i v1), u2] [] (mm x R Z Y o A c G g) Q := by
  refine pW_eq 2 (pc' := 178) (L' := [some (pm_r 20 0), some (pm_i v1), u2]) (S' := [pm_r 27 0]) (M' := (mm x R Z Y o A c G g)) (fun call n => ?_) ?_
  · refine Eq.trans (b := pm_g (mm x R Z Y o A c G g) 20 0 (pm_go call ns d 98 n 178 [some (pm_r 20 0), some (pm_i v1), u2] [pm_a (R 20 0 7)] (mm x R Z Y o A c G g))) rfl ?_
    refine (g_ok (f := 20) (by decide) rfl).trans ?_
    exact (congrArg (fun z => pm_go call ns d 98 n 178 [some (pm_r 20 0), some (pm_i v1), u2] [pm_a z] (mm x R Z Y o A c G g)) (rs_20_7 hR))
  refine pW_eq 2 (pc' := 180) (L' := [some (pm_r 20 0), some (pm_i v1), u2]) (S' := [pm_i (G 27 j1)]) (M' := (mm x R Z Y o A c G g)) (fun call n => ?_) ?_
  · refine Eq.trans (b := pm_g (mm x R Z Y o A c G g) 27 0 (pm_ix (v1) 8 (fun jx => pm_go call ns d 98 n 180 [some (pm_r 20 0), some (pm_i v1), u2] [pm_i (G 27 jx)] (mm x R Z Y o A c G g)))) rfl ?_
    refine (g_ok (f := 27) (by decide) rfl).trans ?_
    refine (ix_ok (j := j1) e1 l1 (by decide)).trans ?_
    rfl
  refine pW_ret 1 (fun call n => ?_) k
  rfl
set_option maxRecDepth 20000 in
theorem b98_181 (hR : RS R) {v1 : Int32} {u2 : Option pm_V} {j1 : Nat} (e1 : v1 = nI j1) (l1 : j1 < 8)  (k : Q (.inl (some (pm_i (G 28 j1))), (mm x R Z Y o A c G g))) : pW ns d 98 181 [some (pm_r 20 0), some (pm_i v1), u2] [] (mm x R Z Y o A c G g) Q := by
  refine pW_eq 2 (pc' := 185) (L' := [some (pm_r 20 0), some (pm_i v1), u2]) (S' := [pm_r 28 0]) (M' := (mm x R Z Y o A c G g)) (fun call n => ?_) ?_
  · refine Eq.trans (b := pm_g (mm x R Z Y o A c G g) 20 0 (pm_go call ns d 98 n 185 [some (pm_r 20 0), some (pm_i v1), u2] [pm_a (R 20 0 8)] (mm x R Z Y o A c G g))) rfl ?_
    refine (g_ok (f := 20) (by decide) rfl).trans ?_
    exact (congrArg (fun z => pm_go call ns d 98 n 185 [some (pm_r 20 0), some (pm_i v1), u2] [pm_a z] (mm x R Z Y o A c G g)) (rs_20_8 hR))
  refine pW_eq 2 (pc' := 187) (L' := [some (pm_r 20 0), some (pm_i v1), u2]) (S' := [pm_i (G 28 j1)]) (M' := (mm x R Z Y o A c G g)) (fun call n => ?_) ?_
  · refine Eq.trans (b := pm_g (mm x R Z Y o A c G g) 28 0 (pm_ix (v1) 8 (fun jx => pm_go call ns d 98 n 187 [some (pm_r 20 0), some (pm_i v1), u2] [pm_i (G 28 jx)] (mm x R Z Y o A c G g)))) rfl ?_
    refine (g_ok (f := 28) (by decide) rfl).trans ?_
    refine (ix_ok (j := j1) e1 l1 (by decide)).trans ?_
    rfl
  refine pW_ret 1 (fun call n => ?_) k
  rfl
set_option maxRecDepth 20000 in
theorem b98_188 (hR : RS R) {v1 : Int32} {u2 : Option pm_V} {j1 : Nat} (e1 : v1 = nI j1) (l1 : j1 < 8)  (k1 : G 21 j1 = nI 4 → pW ns d 98 198 [some (pm_r 20 0), some (pm_i v1), u2] [] (mm x R Z Y o A c G g) Q) (k2 : ¬ (G 21 j1 = nI 4) → pW ns d 98 207 [some (pm_r 20 0), some (pm_i v1), u2] [] (mm x R Z Y o A c G g) Q) : pW ns d 98 188 [some (pm_r 20 0), some (pm_i v1), u2] [] (mm x R Z Y o A c G g) Q := by
  refine pW_eq 2 (pc' := 192) (L' := [some (pm_r 20 0), some (pm_i v1), u2]) (S' := [pm_r 21 0]) (M' := (mm x R Z Y o A c G g)) (fun call n => ?_) ?_
  · refine Eq.trans (b := pm_g (mm x R Z Y o A c G g) 20 0 (pm_go call ns d 98 n 192 [some (pm_r 20 0), some (pm_i v1), u2] [pm_a (R 20 0 1)] (mm x R Z Y o A c G g))) rfl ?_
    refine (g_ok (f := 20) (by decide) rfl).trans ?_
    exact (congrArg (fun z => pm_go call ns d 98 n 192 [some (pm_r 20 0), some (pm_i v1), u2] [pm_a z] (mm x R Z Y o A c G g)) (rs_20_1 hR))
  refine pW_eq 2 (pc' := 194) (L' := [some (pm_r 20 0), some (pm_i v1), u2]) (S' := [pm_i (G 21 j1)]) (M' := (mm x R Z Y o A c G g)) (fun call n => ?_) ?_
  · refine Eq.trans (b := pm_g (mm x R Z Y o A c G g) 21 0 (pm_ix (v1) 8 (fun jx => pm_go call ns d 98 n 194 [some (pm_r 20 0), some (pm_i v1), u2] [pm_i (G 21 jx)] (mm x R Z Y o A c G g)))) rfl ?_
    refine (g_ok (f := 21) (by decide) rfl).trans ?_
    refine (ix_ok (j := j1) e1 l1 (by decide)).trans ?_
    rfl
  exact pW_if 2 (c := G 21 j1 = nI 4) (fun call n => rfl) k1 k2
set_option maxRecDepth 20000 in
theorem b98_209 (hR : RS R) {u0 : Option pm_V} {u1 : Option pm_V} {u2 : Option pm_V}   (k : Q (.inl (some (pm_i (-nI 1))), (mm x R Z Y o A c G g))) : pW ns d 98 209 [u0, u1, u2] [] (mm x R Z Y o A c G g) Q := by
  refine pW_ret 2 (fun call n => ?_) k
  rfl
set_option maxRecDepth 20000 in
theorem b98_66 (hR : RS R) {v1 : Int32} {v2 : Int32} {j1 : Nat} (e1 : (((nI 8) * v1) + v2) - (nI 20) = nI j1) (l1 : j1 < 64)  (k : Q (.inl (some (pm_i (G 33 j1))), (mm x R Z Y o A c G g))) : pW ns d 98 66 [some (pm_r 20 0), some (pm_i v1), some (pm_i v2)] [] (mm x R Z Y o A c G g) Q := by
  refine pW_eq 2 (pc' := 70) (L' := [some (pm_r 20 0), some (pm_i v1), some (pm_i v2)]) (S' := [pm_r 33 0]) (M' := (mm x R Z Y o A c G g)) (fun call n => ?_) ?_
  · refine Eq.trans (b := pm_g (mm x R Z Y o A c G g) 20 0 (pm_go call ns d 98 n 70 [some (pm_r 20 0), some (pm_i v1), some (pm_i v2)] [pm_a (R 20 0 13)] (mm x R Z Y o A c G g))) rfl ?_
    refine (g_ok (f := 20) (by decide) rfl).trans ?_
    exact (congrArg (fun z => pm_go call ns d 98 n 70 [some (pm_r 20 0), some (pm_i v1), some (pm_i v2)] [pm_a z] (mm x R Z Y o A c G g)) (rs_20_13 hR))
  refine pW_eq 8 (pc' := 80) (L' := [some (pm_r 20 0), some (pm_i v1), some (pm_i v2)]) (S' := [pm_i (G 33 j1)]) (M' := (mm x R Z Y o A c G g)) (fun call n => ?_) ?_
  · refine Eq.trans (b := pm_g (mm x R Z Y o A c G g) 33 0 (pm_ix ((((nI 8) * v1) + v2) - (nI 20)) 64 (fun jx => pm_go call ns d 98 n 80 [some (pm_r 20 0), some (pm_i v1), some (pm_i v2)] [pm_i (G 33 jx)] (mm x R Z Y o A c G g)))) rfl ?_
    refine (g_ok (f := 33) (by decide) rfl).trans ?_
    refine (ix_ok (j := j1) e1 l1 (by decide)).trans ?_
    rfl
  refine pW_ret 1 (fun call n => ?_) k
  rfl
set_option maxRecDepth 20000 in
theorem b98_53 (hR : RS R) {u0 : Option pm_V} {u1 : Option pm_V} {u2 : Option pm_V} {vs0 : Int32}   (k : Q (.inl (some (pm_i vs0)), (mm x R Z Y o A c G g))) : pW ns d 98 53 [u0, u1, u2] [pm_i vs0] (mm x R Z Y o A c G g) Q := by
  refine pW_ret 1 (fun call n => ?_) k
  rfl
set_option maxRecDepth 20000 in
theorem b98_198 (hR : RS R) {v1 : Int32} {u2 : Option pm_V} {j1 : Nat} (e1 : v1 = nI j1) (l1 : j1 < 8)  (k : Q (.inl (some (pm_i (G 29 j1))), (mm x R Z Y o A c G g))) : pW ns d 98 198 [some (pm_r 20 0), some (pm_i v1), u2] [] (mm x R Z Y o A c G g) Q := by
  refine pW_eq 2 (pc' := 202) (L' := [some (pm_r 20 0), some (pm_i v1), u2]) (S' := [pm_r 29 0]) (M' := (mm x R Z Y o A c G g)) (fun call n => ?_) ?_
  · refine Eq.trans (b := pm_g (mm x R Z Y o A c G g) 20 0 (pm_go call ns d 98 n 202 [some (pm_r 20 0), some (pm_i v1), u2] [pm_a (R 20 0 9)] (mm x R Z Y o A c G g))) rfl ?_
    refine (g_ok (f := 20) (by decide) rfl).trans ?_
    exact (congrArg (fun z => pm_go call ns d 98 n 202 [some (pm_r 20 0), some (pm_i v1), u2] [pm_a z] (mm x R Z Y o A c G g)) (rs_20_9 hR))
  refine pW_eq 2 (pc' := 204) (L' := [some (pm_r 20 0), some (pm_i v1), u2]) (S' := [pm_i (G 29 j1)]) (M' := (mm x R Z Y o A c G g)) (fun call n => ?_) ?_
  · refine Eq.trans (b := pm_g (mm x R Z Y o A c G g) 29 0 (pm_ix (v1) 8 (fun jx => pm_go call ns d 98 n 204 [some (pm_r 20 0), some (pm_i v1), u2] [pm_i (G 29 jx)] (mm x R Z Y o A c G g)))) rfl ?_
    refine (g_ok (f := 29) (by decide) rfl).trans ?_
    refine (ix_ok (j := j1) e1 l1 (by decide)).trans ?_
    rfl
  refine pW_ret 2 (fun call n => ?_) k
  rfl
set_option maxRecDepth 20000 in
theorem b98_207 (hR : RS R) {u0 : Option pm_V} {u1 : Option pm_V} {u2 : Option pm_V}   (k : Q (.inl (some (pm_i (-nI 1))), (mm x R Z Y o A c G g))) : pW ns d 98 207 [u0, u1, u2] [] (mm x R Z Y o A c G g) Q := by
  refine pW_ret 2 (fun call n => ?_) k
  rfl
set_option maxRecDepth 20000 in
theorem t98_10 (hR : RS R) {v1 : Int32} {v2 : Int32} {vs0 : Int32}  (k1 : (vs0 = 0) → Q (.inl (some (pm_i (-nI 1))), (mm x R Z Y o A c G g))) (k2 : (¬ (vs0 = 0)) → pW ns d 98 13 [some (pm_r 20 0), some (pm_i v1), some (pm_i v2)] [] (mm x R Z Y o A c G g) Q) : pW ns d 98 10 [some (pm_r 20 0), some (pm_i v1), some (pm_i v2)] [pm_i vs0] (mm x R Z Y o A c G g) Q := by
  refine b98_10 hR  (fun h1 => ?_) (fun h1 => ?_)
  · skip
    exact b98_22 hR   (k1 h1)
  · skip
    exact (k2 h1)
set_option maxRecDepth 20000 in
theorem t98_13 (hR : RS R) {v1 : Int32} {v2 : Int32} {j1 : Nat} (e1 : v1 = nI j1) (l1 : j1 < 8) (k1 : (G 21 j1 = 0) → Q (.inl (some (pm_i (-nI 1))), (mm x R Z Y o A c G g))) (k2 : (¬ (G 21 j1 = 0)) → (v2 < nI 10) → (v2 ≤ nI 20) → pW ns d 98 81 [some (pm_r 20 0), some (pm_i v1), some (pm_i v2)] [] (mm x R Z Y o A c G g) Q) (k3 : (¬ (G 21 j1 = 0)) → (v2 < nI 10) → (¬ (v2 ≤ nI 20)) → (nI 28 ≤ v2) → pW ns d 98 81 [some (pm_r 20 0), some (pm_i v1), some (pm_i v2)] [] (mm x R Z Y o A c G g) Q) (k4 : (¬ (G 21 j1 = 0)) → (v2 < nI 10) → (¬ (v2 ≤ nI 20)) → (¬ (nI 28 ≤ v2)) → pW ns d 98 66 [some (pm_r 20 0), some (pm_i v1), some (pm_i v2)] [] (mm x R Z Y o A c G g) Q) (k5 : (¬ (G 21 j1 = 0)) → (¬ (v2 < nI 10)) → (nI 16 ≤ v2) → (v2 ≤ nI 20) → pW ns d 98 81 [some (pm_r 20 0), some (pm_i v1), some (pm_i v2)] [] (mm x R Z Y o A c G g) Q) (k6 : (¬ (G 21 j1 = 0)) → (¬ (v2 < nI 10)) → (nI 16 ≤ v2) → (¬ (v2 ≤ nI 20)) → (nI 28 ≤ v2) → pW ns d 98 81 [some (pm_r 20 0), some (pm_i v1), some (pm_i v2)] [] (mm x R Z Y o A c G g) Q) (k7 : (¬ (G 21 j1 = 0)) → (¬ (v2 < nI 10)) → (nI 16 ≤ v2) → (¬ (v2 ≤ nI 20)) → (¬ (nI 28 ≤ v2)) → pW ns d 98 66 [some (pm_r 20 0), some (pm_i v1), some (pm_i v2)] [] (mm x R Z Y o A c G g) Q) (k8 : (¬ (G 21 j1 = 0)) → (¬ (v2 < nI 10)) → (¬ (nI 16 ≤ v2)) → pW ns d 98 36 [some (pm_r 20 0), some (pm_i v1), some (pm_i v2)] [] (mm x R Z Y o A c G g) Q) : pW ns d 98 13 [some (pm_r 20 0), some (pm_i v1), some (pm_i v2)] [] (mm x R Z Y o A c G g) Q := by
  refine b98_13 hR e1 l1 (fun h1 => ?_) (fun h1 => ?_)
  · skip
    exact b98_22 hR   (k1 h1)
  · skip
    refine b98_24 hR   (fun h2 => ?_) (fun h2 => ?_)
    · skip
      refine b98_54 hR   (fun h3 => ?_) (fun h3 => ?_)
      · skip
        exact (k2 h1 h2 h3)
      · skip
        refine b98_60 hR   (fun h4 => ?_) (fun h4 => ?_)
        · skip
          exact (k3 h1 h2 h3 h4)
        · skip
          exact (k4 h1 h2 h3 h4)
    · skip
      refine b98_30 hR   (fun h3 => ?_) (fun h3 => ?_)
      · skip
        refine b98_54 hR   (fun h4 => ?_) (fun h4 => ?_)
        · skip
          exact (k5 h1 h2 h3 h4)
        · skip
          refine b98_60 hR   (fun h5 => ?_) (fun h5 => ?_)
          · skip
            exact (k6 h1 h2 h3 h4 h5)
          · skip
            exact (k7 h1 h2 h3 h4 h5)
      · skip
        exact (k8 h1 h2 h3)
set_option maxRecDepth 20000 in
theorem t98_24 (hR : RS R) {v1 : Int32} {v2 : Int32}  (k1 : (v2 < nI 10) → (v2 ≤ nI 20) → pW ns d 98 81 [some (pm_r 20 0), some (pm_i v1), some (pm_i v2)] [] (mm x R Z Y o A c G g) Q) (k2 : (v2 < nI 10) → (¬ (v2 ≤ nI 20)) → (nI 28 ≤ v2) → pW ns d 98 81 [some (pm_r 20 0), some (pm_i v1), some (pm_i v2)] [] (mm x R Z Y o A c G g) Q) (k3 : (v2 < nI 10) → (¬ (v2 ≤ nI 20)) → (¬ (nI 28 ≤ v2)) → pW ns d 98 66 [some (pm_r 20 0), some (pm_i v1), some (pm_i v2)] [] (mm x R Z Y o A c G g) Q) (k4 : (¬ (v2 < nI 10)) → (nI 16 ≤ v2) → (v2 ≤ nI 20) → pW ns d 98 81 [some (pm_r 20 0), some (pm_i v1), some (pm_i v2)] [] (mm x R Z Y o A c G g) Q) (k5 : (¬ (v2 < nI 10)) → (nI 16 ≤ v2) → (¬ (v2 ≤ nI 20)) → (nI 28 ≤ v2) → pW ns d 98 81 [some (pm_r 20 0), some (pm_i v1), some (pm_i v2)] [] (mm x R Z Y o A c G g) Q) (k6 : (¬ (v2 < nI 10)) → (nI 16 ≤ v2) → (¬ (v2 ≤ nI 20)) → (¬ (nI 28 ≤ v2)) → pW ns d 98 66 [some (pm_r 20 0), some (pm_i v1), some (pm_i v2)] [] (mm x R Z Y o A c G g) Q) (k7 : (¬ (v2 < nI 10)) → (¬ (nI 16 ≤ v2)) → pW ns d 98 36 [some (pm_r 20 0), some (pm_i v1), some (pm_i v2)] [] (mm x R Z Y o A c G g) Q) : pW ns d 98 24 [some (pm_r 20 0), some (pm_i v1), some (pm_i v2)] [] (mm x R Z Y o A c G g) Q := by
  refine b98_24 hR  (fun h1 => ?_) (fun h1 => ?_)
  · skip
    refine b98_54 hR   (fun h2 => ?_) (fun h2 => ?_)
    · skip
      exact (k1 h1 h2)
    · skip
      refine b98_60 hR   (fun h3 => ?_) (fun h3 => ?_)
      · skip
        exact (k2 h1 h2 h3)
      · skip
        exact (k3 h1 h2 h3)
  · skip
    refine b98_30 hR   (fun h2 => ?_) (fun h2 => ?_)
    · skip
      refine b98_54 hR   (fun h3 => ?_) (fun h3 => ?_)
      · skip
        exact (k4 h1 h2 h3)
      · skip
        refine b98_60 hR   (fun h4 => ?_) (fun h4 => ?_)
        · skip
          exact (k5 h1 h2 h3 h4)
        · skip
          exact (k6 h1 h2 h3 h4)
    · skip
      exact (k7 h1 h2)
set_option maxRecDepth 20000 in
theorem t98_54 (hR : RS R) {v1 : Int32} {v2 : Int32}  (k1 : (v2 ≤ nI 20) → pW ns d 98 81 [some (pm_r 20 0), some (pm_i v1), some (pm_i v2)] [] (mm x R Z Y o A c G g) Q) (k2 : (¬ (v2 ≤ nI 20)) → (nI 28 ≤ v2) → pW ns d 98 81 [some (pm_r 20 0), some (pm_i v1), some (pm_i v2)] [] (mm x R Z Y o A c G g) Q) (k3 : (¬ (v2 ≤ nI 20)) → (¬ (nI 28 ≤ v2)) → pW ns d 98 66 [some (pm_r 20 0), some (pm_i v1), some (pm_i v2)] [] (mm x R Z Y o A c G g) Q) : pW ns d 98 54 [some (pm_r 20 0), some (pm_i v1), some (pm_i v2)] [] (mm x R Z Y o A c G g) Q := by
  refine b98_54 hR  (fun h1 => ?_) (fun h1 => ?_)
  · skip
    exact (k1 h1)
  · skip
    refine b98_60 hR   (fun h2 => ?_) (fun h2 => ?_)
    · skip
      exact (k2 h1 h2)
    · skip
      exact (k3 h1 h2)
set_option maxRecDepth 20000 in
theorem t98_30 (hR : RS R) {v1 : Int32} {v2 : Int32}  (k1 : (nI 16 ≤ v2) → (v2 ≤ nI 20) → pW ns d 98 81 [some (pm_r 20 0), some (pm_i v1), some (pm_i v2)] [] (mm x R Z Y o A c G g) Q) (k2 : (nI 16 ≤ v2) → (¬ (v2 ≤ nI 20)) → (nI 28 ≤ v2) → pW ns d 98 81 [some (pm_r 20 0), some (pm_i v1), some (pm_i v2)] [] (mm x R Z Y o A c G g) Q) (k3 : (nI 16 ≤ v2) → (¬ (v2 ≤ nI 20)) → (¬ (nI 28 ≤ v2)) → pW ns d 98 66 [some (pm_r 20 0), some (pm_i v1), some (pm_i v2)] [] (mm x R Z Y o A c G g) Q) (k4 : (¬ (nI 16 ≤ v2)) → pW ns d 98 36 [some (pm_r 20 0), some (pm_i v1), some (pm_i v2)] [] (mm x R Z Y o A c G g) Q) : pW ns d 98 30 [some (pm_r 20 0), some (pm_i v1), some (pm_i v2)] [] (mm x R Z Y o A c G g) Q := by
  refine b98_30 hR  (fun h1 => ?_) (fun h1 => ?_)
  · skip
    refine b98_54 hR   (fun h2 => ?_) (fun h2 => ?_)
    · skip
      exact (k1 h1 h2)
    · skip
      refine b98_60 hR   (fun h3 => ?_) (fun h3 => ?_)
      · skip
        exact (k2 h1 h2 h3)
      · skip
        exact (k3 h1 h2 h3)
  · skip
    exact (k4 h1)
set_option maxRecDepth 20000 in
theorem t98_60 (hR : RS R) {v1 : Int32} {v2 : Int32}  (k1 : (nI 28 ≤ v2) → pW ns d 98 81 [some (pm_r 20 0), some (pm_i v1), some (pm_i v2)] [] (mm x R Z Y o A c G g) Q) (k2 : (¬ (nI 28 ≤ v2)) → pW ns d 98 66 [some (pm_r 20 0), some (pm_i v1), some (pm_i v2)] [] (mm x R Z Y o A c G g) Q) : pW ns d 98 60 [some (pm_r 20 0), some (pm_i v1), some (pm_i v2)] [] (mm x R Z Y o A c G g) Q := by
  refine b98_60 hR  (fun h1 => ?_) (fun h1 => ?_)
  · skip
    exact (k1 h1)
  · skip
    exact (k2 h1)
set_option maxRecDepth 20000 in
theorem t98_188 (hR : RS R) {v1 : Int32} {u2 : Option pm_V} {j1 : Nat} (e1 : v1 = nI j1) (l1 : j1 < 8) (k1 : (G 21 j1 = nI 4) → Q (.inl (some (pm_i (G 29 j1))), (mm x R Z Y o A c G g))) (k2 : (¬ (G 21 j1 = nI 4)) → Q (.inl (some (pm_i (-nI 1))), (mm x R Z Y o A c G g))) : pW ns d 98 188 [some (pm_r 20 0), some (pm_i v1), u2] [] (mm x R Z Y o A c G g) Q := by
  refine b98_188 hR e1 l1 (fun h1 => ?_) (fun h1 => ?_)
  · skip
    exact b98_198 hR  e1 l1 (k1 h1)
  · skip
    exact b98_207 hR   (k2 h1)
/-! 99 JobLayerModel.taken -/
set_option maxRecDepth 20000 in
theorem b99_0 (hR : RS R) {v1 : Int32} {v2 : Int32}  {x2 : Nat} {o2 : Int64} {A2 : Nat → Nat → Nat → Int32} {c2 : Nat → Int64} {G2 : Nat → Nat → Int32} {g2 : Nat → Int64} {y : Int32} (hE : pE ns d 47 [pm_r 20 0, pm_i v1] (mm x R Z Y o A c (pm_v G 20 0 (nI 0)) g) (.inl (some (pm_i y)), (mm x2 R Z Y o2 A2 c2 G2 g2))) (k : pW ns d 99 10 [some (pm_r 20 0), some (pm_i v1), some (pm_i v2)] [pm_i y] (mm x2 R Z Y o2 A2 c2 G2 g2) Q) : pW ns d 99 0 [some (pm_r 20 0), some (pm_i v1), some (pm_i v2)] [] (mm x R Z Y o A c G g) Q := by
  refine pW_eq 3 (pc' := 5) (L' := [some (pm_r 20 0), some (pm_i v1), some (pm_i v2)]) (S' := []) (M' := (mm x R Z Y o A c (pm_v G 20 0 (nI 0)) g)) (fun call n => ?_) ?_
  · refine Eq.trans (b := pm_g (mm x R Z Y o A c G g) 20 0 (pm_go call ns d 99 n 5 [some (pm_r 20 0), some (pm_i v1), some (pm_i v2)] [] (pm_u (mA Z A G) 20 0 0 (nI 0), mB Y o c g, R, pm_tot, x))) rfl ?_
    refine (g_ok (f := 20) (by decide) rfl).trans ?_
    exact (congrArg (fun z => pm_go call ns d 99 n 5 [some (pm_r 20 0), some (pm_i v1), some (pm_i v2)] [] (z, mB Y o c g, R, pm_tot, x)) (uG (by decide)))
  refine pW_call (pc' := 7) (r := []) (L' := [some (pm_r 20 0), some (pm_i v1), some (pm_i v2)]) 3 (fun call n => ?_) hE k
  exact Eq.trans (b := pm_g (mm x R Z Y o A c (pm_v G 20 0 (nI 0)) g) 20 0 (pm_cl call 99 (pm_go call ns d 99 n) 7 47 [pm_r 20 0, pm_i v1] [] [some (pm_r 20 0), some (pm_i v1), some (pm_i v2)] (mm x R Z Y o A c (pm_v G 20 0 (nI 0)) g))) rfl (g_ok (f := 20) (by decide) rfl)
set_option maxRecDepth 20000 in
theorem b99_10 (hR : RS R) {v1 : Int32} {v2 : Int32} {vs0 : Int32}   (k1 : vs0 = 0 → pW ns d 99 36 [some (pm_r 20 0), some (pm_i v1), some (pm_i v2)] [] (mm x R Z Y o A c G g) Q) (k2 : ¬ (vs0 = 0) → pW ns d 99 13 [some (pm_r 20 0), some (pm_i v1), some (pm_i v2)] [] (mm x R Z Y o A c G g) Q) : pW ns d 99 10 [some (pm_r 20 0), some (pm_i v1), some (pm_i v2)] [pm_i vs0] (mm x R Z Y o A c G g) Q := by
  exact pW_if 1 (c := vs0 = 0) (fun call n => rfl) k1 k2
set_option maxRecDepth 20000 in
theorem b99_36 (hR : RS R) {u0 : Option pm_V} {u1 : Option pm_V} {u2 : Option pm_V}   (k : Q (.inl (some (pm_i (-nI 1))), (mm x R Z Y o A c G g))) : pW ns d 99 36 [u0, u1, u2] [] (mm x R Z Y o A c G g) Q := by
  refine pW_ret 3 (fun call n => ?_) k
  rfl
set_option maxRecDepth 20000 in
theorem b99_13 (hR : RS R) {v1 : Int32} {v2 : Int32} {j1 : Nat} (e1 : v1 = nI j1) (l1 : j1 < 8)  (k1 : G 21 j1 = 0 → pW ns d 99 36 [some (pm_r 20 0), some (pm_i v1), some (pm_i v2)] [] (mm x R Z Y o A c G g) Q) (k2 : ¬ (G 21 j1 = 0) → pW ns d 99 22 [some (pm_r 20 0), some (pm_i v1), some (pm_i v2)] [] (mm x R Z Y o A c G g) Q) : pW ns d 99 13 [some (pm_r 20 0), some (pm_i v1), some (pm_i v2)] [] (mm x R Z Y o A c G g) Q := by
  refine pW_eq 2 (pc' := 17) (L' := [some (pm_r 20 0), some (pm_i v1), some (pm_i v2)]) (S' := [pm_r 21 0]) (M' := (mm x R Z Y o A c G g)) (fun call n => ?_) ?_
  · refine Eq.trans (b := pm_g (mm x R Z Y o A c G g) 20 0 (pm_go call ns d 99 n 17 [some (pm_r 20 0), some (pm_i v1), some (pm_i v2)] [pm_a (R 20 0 1)] (mm x R Z Y o A c G g))) rfl ?_
    refine (g_ok (f := 20) (by decide) rfl).trans ?_
    exact (congrArg (fun z => pm_go call ns d 99 n 17 [some (pm_r 20 0), some (pm_i v1), some (pm_i v2)] [pm_a z] (mm x R Z Y o A c G g)) (rs_20_1 hR))
  refine pW_eq 2 (pc' := 19) (L' := [some (pm_r 20 0), some (pm_i v1), some (pm_i v2)]) (S' := [pm_i (G 21 j1)]) (M' := (mm x R Z Y o A c G g)) (fun call n => ?_) ?_
  · refine Eq.trans (b := pm_g (mm x R Z Y o A c G g) 21 0 (pm_ix (v1) 8 (fun jx => pm_go call ns d 99 n 19 [some (pm_r 20 0), some (pm_i v1), some (pm_i v2)] [pm_i (G 21 jx)] (mm x R Z Y o A c G g)))) rfl ?_
    refine (g_ok (f := 21) (by decide) rfl).trans ?_
    refine (ix_ok (j := j1) e1 l1 (by decide)).trans ?_
    rfl
  exact pW_if 1 (c := G 21 j1 = 0) (fun call n => rfl) k1 k2
set_option maxRecDepth 20000 in
theorem b99_22 (hR : RS R) {v1 : Int32} {v2 : Int32}   (k1 : v2 < 0 → pW ns d 99 36 [some (pm_r 20 0), some (pm_i v1), some (pm_i v2)] [] (mm x R Z Y o A c G g) Q) (k2 : ¬ (v2 < 0) → pW ns d 99 26 [some (pm_r 20 0), some (pm_i v1), some (pm_i v2)] [] (mm x R Z Y o A c G g) Q) : pW ns d 99 22 [some (pm_r 20 0), some (pm_i v1), some (pm_i v2)] [] (mm x R Z Y o A c G g) Q := by
  exact pW_if 2 (c := v2 < 0) (fun call n => rfl) k1 k2
set_option maxRecDepth 20000 in
theorem b99_26 (hR : RS R) {v1 : Int32} {v2 : Int32} {j1 : Nat} (e1 : v1 = nI j1) (l1 : j1 < 8)  (k1 : v2 < G 27 j1 → pW ns d 99 40 [some (pm_r 20 0), some (pm_i v1), some (pm_i v2)] [] (mm x R Z Y o A c G g) Q) (k2 : ¬ (v2 < G 27 j1) → pW ns d 99 36 [some (pm_r 20 0), some (pm_i v1), some (pm_i v2)] [] (mm x R Z Y o A c G g) Q) : pW ns d 99 26 [some (pm_r 20 0), some (pm_i v1), some (pm_i v2)] [] (mm x R Z Y o A c G g) Q := by
  refine pW_eq 3 (pc' := 31) (L' := [some (pm_r 20 0), some (pm_i v1), some (pm_i v2)]) (S' := [pm_r 27 0, pm_i v2]) (M' := (mm x R Z Y o A c G g)) (fun call n => ?_) ?_
  · refine Eq.trans (b := pm_g (mm x R Z Y o A c G g) 20 0 (pm_go call ns d 99 n 31 [some (pm_r 20 0), some (pm_i v1), some (pm_i v2)] [pm_a (R 20 0 7), pm_i v2] (mm x R Z Y o A c G g))) rfl ?_
    refine (g_ok (f := 20) (by decide) rfl).trans ?_
    exact (congrArg (fun z => pm_go call ns d 99 n 31 [some (pm_r 20 0), some (pm_i v1), some (pm_i v2)] [pm_a z, pm_i v2] (mm x R Z Y o A c G g)) (rs_20_7 hR))
  refine pW_eq 2 (pc' := 33) (L' := [some (pm_r 20 0), some (pm_i v1), some (pm_i v2)]) (S' := [pm_i (G 27 j1), pm_i v2]) (M' := (mm x R Z Y o A c G g)) (fun call n => ?_) ?_
  · refine Eq.trans (b := pm_g (mm x R Z Y o A c G g) 27 0 (pm_ix (v1) 8 (fun jx => pm_go call ns d 99 n 33 [some (pm_r 20 0), some (pm_i v1), some (pm_i v2)] [pm_i (G 27 jx), pm_i v2] (mm x R Z Y o A c G g)))) rfl ?_
    refine (g_ok (f := 27) (by decide) rfl).trans ?_
    refine (ix_ok (j := j1) e1 l1 (by decide)).trans ?_
    rfl
  exact pW_if 1 (c := v2 < G 27 j1) (fun call n => rfl) k1 k2
set_option maxRecDepth 20000 in
theorem b99_40 (hR : RS R) {v1 : Int32} {v2 : Int32} {j1 : Nat} (e1 : ((nI 8) * v1) + v2 = nI j1) (l1 : j1 < 64)  (k : Q (.inl (some (pm_i (G 41 j1))), (mm x R Z Y o A c G g))) : pW ns d 99 40 [some (pm_r 20 0), some (pm_i v1), some (pm_i v2)] [] (mm x R Z Y o A c G g) Q := by
  refine pW_eq 2 (pc' := 44) (L' := [some (pm_r 20 0), some (pm_i v1), some (pm_i v2)]) (S' := [pm_r 41 0]) (M' := (mm x R Z Y o A c G g)) (fun call n => ?_) ?_
  · refine Eq.trans (b := pm_g (mm x R Z Y o A c G g) 20 0 (pm_go call ns d 99 n 44 [some (pm_r 20 0), some (pm_i v1), some (pm_i v2)] [pm_a (R 20 0 22)] (mm x R Z Y o A c G g))) rfl ?_
    refine (g_ok (f := 20) (by decide) rfl).trans ?_
    exact (congrArg (fun z => pm_go call ns d 99 n 44 [some (pm_r 20 0), some (pm_i v1), some (pm_i v2)] [pm_a z] (mm x R Z Y o A c G g)) (rs_20_22 hR))
  refine pW_eq 6 (pc' := 51) (L' := [some (pm_r 20 0), some (pm_i v1), some (pm_i v2)]) (S' := [pm_i (G 41 j1)]) (M' := (mm x R Z Y o A c G g)) (fun call n => ?_) ?_
  · refine Eq.trans (b := pm_g (mm x R Z Y o A c G g) 41 0 (pm_ix (((nI 8) * v1) + v2) 64 (fun jx => pm_go call ns d 99 n 51 [some (pm_r 20 0), some (pm_i v1), some (pm_i v2)] [pm_i (G 41 jx)] (mm x R Z Y o A c G g)))) rfl ?_
    refine (g_ok (f := 41) (by decide) rfl).trans ?_
    refine (ix_ok (j := j1) e1 l1 (by decide)).trans ?_
    rfl
  refine pW_ret 1 (fun call n => ?_) k
  rfl
set_option maxRecDepth 20000 in
theorem t99_10 (hR : RS R) {v1 : Int32} {v2 : Int32} {vs0 : Int32}  (k1 : (vs0 = 0) → Q (.inl (some (pm_i (-nI 1))), (mm x R Z Y o A c G g))) (k2 : (¬ (vs0 = 0)) → pW ns d 99 13 [some (pm_r 20 0), some (pm_i v1), some (pm_i v2)] [] (mm x R Z Y o A c G g) Q) : pW ns d 99 10 [some (pm_r 20 0), some (pm_i v1), some (pm_i v2)] [pm_i vs0] (mm x R Z Y o A c G g) Q := by
  refine b99_10 hR  (fun h1 => ?_) (fun h1 => ?_)
  · skip
    exact b99_36 hR   (k1 h1)
  · skip
    exact (k2 h1)
set_option maxRecDepth 20000 in
theorem t99_13 (hR : RS R) {v1 : Int32} {v2 : Int32} {j1 : Nat} (e1 : v1 = nI j1) (l1 : j1 < 8) (k1 : (G 21 j1 = 0) → Q (.inl (some (pm_i (-nI 1))), (mm x R Z Y o A c G g))) (k2 : (¬ (G 21 j1 = 0)) → (v2 < 0) → Q (.inl (some (pm_i (-nI 1))), (mm x R Z Y o A c G g))) (k3 : (¬ (G 21 j1 = 0)) → (¬ (v2 < 0)) → (v2 < G 27 j1) → pW ns d 99 40 [some (pm_r 20 0), some (pm_i v1), some (pm_i v2)] [] (mm x R Z Y o A c G g) Q) (k4 : (¬ (G 21 j1 = 0)) → (¬ (v2 < 0)) → (¬ (v2 < G 27 j1)) → Q (.inl (some (pm_i (-nI 1))), (mm x R Z Y o A c G g))) : pW ns d 99 13 [some (pm_r 20 0), some (pm_i v1), some (pm_i v2)] [] (mm x R Z Y o A c G g) Q := by
  refine b99_13 hR e1 l1 (fun h1 => ?_) (fun h1 => ?_)
  · skip
    exact b99_36 hR   (k1 h1)
  · skip
    refine b99_22 hR   (fun h2 => ?_) (fun h2 => ?_)
    · skip
      exact b99_36 hR   (k2 h1 h2)
    · skip
      refine b99_26 hR  e1 l1 (fun h3 => ?_) (fun h3 => ?_)
      · skip
        exact (k3 h1 h2 h3)
      · skip
        exact b99_36 hR   (k4 h1 h2 h3)
set_option maxRecDepth 20000 in
theorem t99_22 (hR : RS R) {v1 : Int32} {v2 : Int32}  (k1 : (v2 < 0) → Q (.inl (some (pm_i (-nI 1))), (mm x R Z Y o A c G g))) (k2 : (¬ (v2 < 0)) → pW ns d 99 26 [some (pm_r 20 0), some (pm_i v1), some (pm_i v2)] [] (mm x R Z Y o A c G g) Q) : pW ns d 99 22 [some (pm_r 20 0), some (pm_i v1), some (pm_i v2)] [] (mm x R Z Y o A c G g) Q := by
  refine b99_22 hR  (fun h1 => ?_) (fun h1 => ?_)
  · skip
    exact b99_36 hR   (k1 h1)
  · skip
    exact (k2 h1)
set_option maxRecDepth 20000 in
theorem t99_26 (hR : RS R) {v1 : Int32} {v2 : Int32} {j1 : Nat} (e1 : v1 = nI j1) (l1 : j1 < 8) (k1 : (v2 < G 27 j1) → pW ns d 99 40 [some (pm_r 20 0), some (pm_i v1), some (pm_i v2)] [] (mm x R Z Y o A c G g) Q) (k2 : (¬ (v2 < G 27 j1)) → Q (.inl (some (pm_i (-nI 1))), (mm x R Z Y o A c G g))) : pW ns d 99 26 [some (pm_r 20 0), some (pm_i v1), some (pm_i v2)] [] (mm x R Z Y o A c G g) Q := by
  refine b99_26 hR e1 l1 (fun h1 => ?_) (fun h1 => ?_)
  · skip
    exact (k1 h1)
  · skip
    exact b99_36 hR   (k2 h1)
/-! 100 JobLayerModel.heard -/
set_option maxRecDepth 20000 in
theorem b100_0 (hR : RS R) {v1 : Int32} {v2 : Int32} {u3 : Option pm_V}  {x2 : Nat} {o2 : Int64} {A2 : Nat → Nat → Nat → Int32} {c2 : Nat → Int64} {G2 : Nat → Nat → Int32} {g2 : Nat → Int64} {y : Int32} (hE : pE ns d 47 [pm_r 20 0, pm_i v1] (mm x R Z Y o A c (pm_v G 20 0 (nI 0)) g) (.inl (some (pm_i y)), (mm x2 R Z Y o2 A2 c2 G2 g2))) (k : pW ns d 100 10 [some (pm_r 20 0), some (pm_i v1), some (pm_i v2), u3] [pm_i y] (mm x2 R Z Y o2 A2 c2 G2 g2) Q) : pW ns d 100 0 [some (pm_r 20 0), some (pm_i v1), some (pm_i v2), u3] [] (mm x R Z Y o A c G g) Q := by
  refine pW_eq 3 (pc' := 5) (L' := [some (pm_r 20 0), some (pm_i v1), some (pm_i v2), u3]) (S' := []) (M' := (mm x R Z Y o A c (pm_v G 20 0 (nI 0)) g)) (fun call n => ?_) ?_
  · refine Eq.trans (b := pm_g (mm x R Z Y o A c G g) 20 0 (pm_go call ns d 100 n 5 [some (pm_r 20 0), some (pm_i v1), some (pm_i v2), u3] [] (pm_u (mA Z A G) 20 0 0 (nI 0), mB Y o c g, R, pm_tot, x))) rfl ?_
    refine (g_ok (f := 20) (by decide) rfl).trans ?_
    exact (congrArg (fun z => pm_go call ns d 100 n 5 [some (pm_r 20 0), some (pm_i v1), some (pm_i v2), u3] [] (z, mB Y o c g, R, pm_tot, x)) (uG (by decide)))
  refine pW_call (pc' := 7) (r := []) (L' := [some (pm_r 20 0), some (pm_i v1), some (pm_i v2), u3]) 3 (fun call n => ?_) hE k
  exact Eq.trans (b := pm_g (mm x R Z Y o A c (pm_v G 20 0 (nI 0)) g) 20 0 (pm_cl call 100 (pm_go call ns d 100 n) 7 47 [pm_r 20 0, pm_i v1] [] [some (pm_r 20 0), some (pm_i v1), some (pm_i v2), u3] (mm x R Z Y o A c (pm_v G 20 0 (nI 0)) g))) rfl (g_ok (f := 20) (by decide) rfl)
set_option maxRecDepth 20000 in
theorem b100_10 (hR : RS R) {v1 : Int32} {v2 : Int32} {u3 : Option pm_V} {vs0 : Int32}   (k1 : vs0 = 0 → pW ns d 100 46 [some (pm_r 20 0), some (pm_i v1), some (pm_i v2), u3] [] (mm x R Z Y o A c G g) Q) (k2 : ¬ (vs0 = 0) → pW ns d 100 13 [some (pm_r 20 0), some (pm_i v1), some (pm_i v2), u3] [] (mm x R Z Y o A c G g) Q) : pW ns d 100 10 [some (pm_r 20 0), some (pm_i v1), some (pm_i v2), u3] [pm_i vs0] (mm x R Z Y o A c G g) Q := by
  exact pW_if 1 (c := vs0 = 0) (fun call n => rfl) k1 k2
set_option maxRecDepth 20000 in
theorem b100_46 (hR : RS R) {v1 : Int32} {v2 : Int32} {u3 : Option pm_V}   (k1 : nI 0 = 0 → pW ns d 100 78 [some (pm_r 20 0), some (pm_i v1), some (pm_i v2), some (pm_i (nI 0))] [] (mm x R Z Y o A c G g) Q) (k2 : ¬ (nI 0 = 0) → pW ns d 100 52 [some (pm_r 20 0), some (pm_i v1), some (pm_i v2), some (pm_i (nI 0))] [] (mm x R Z Y o A c G g) Q) : pW ns d 100 46 [some (pm_r 20 0), some (pm_i v1), some (pm_i v2), u3] [] (mm x R Z Y o A c G g) Q := by
  exact pW_if 4 (c := nI 0 = 0) (fun call n => rfl) k1 k2
set_option maxRecDepth 20000 in
theorem b100_13 (hR : RS R) {v1 : Int32} {v2 : Int32} {u3 : Option pm_V} {j1 : Nat} (e1 : v1 = nI j1) (l1 : j1 < 8)  (k1 : G 21 j1 = 0 → pW ns d 100 46 [some (pm_r 20 0), some (pm_i v1), some (pm_i v2), u3] [] (mm x R Z Y o A c G g) Q) (k2 : ¬ (G 21 j1 = 0) → pW ns d 100 22 [some (pm_r 20 0), some (pm_i v1), some (pm_i v2), u3] [] (mm x R Z Y o A c G g) Q) : pW ns d 100 13 [some (pm_r 20 0), some (pm_i v1), some (pm_i v2), u3] [] (mm x R Z Y o A c G g) Q := by
  refine pW_eq 2 (pc' := 17) (L' := [some (pm_r 20 0), some (pm_i v1), some (pm_i v2), u3]) (S' := [pm_r 21 0]) (M' := (mm x R Z Y o A c G g)) (fun call n => ?_) ?_
  · refine Eq.trans (b := pm_g (mm x R Z Y o A c G g) 20 0 (pm_go call ns d 100 n 17 [some (pm_r 20 0), some (pm_i v1), some (pm_i v2), u3] [pm_a (R 20 0 1)] (mm x R Z Y o A c G g))) rfl ?_
    refine (g_ok (f := 20) (by decide) rfl).trans ?_
    exact (congrArg (fun z => pm_go call ns d 100 n 17 [some (pm_r 20 0), some (pm_i v1), some (pm_i v2), u3] [pm_a z] (mm x R Z Y o A c G g)) (rs_20_1 hR))
  refine pW_eq 2 (pc' := 19) (L' := [some (pm_r 20 0), some (pm_i v1), some (pm_i v2), u3]) (S' := [pm_i (G 21 j1)]) (M' := (mm x R Z Y o A c G g)) (fun call n => ?_) ?_
  · refine Eq.trans (b := pm_g (mm x R Z Y o A c G g) 21 0 (pm_ix (v1) 8 (fun jx => pm_go call ns d 100 n 19 [some (pm_r 20 0), some (pm_i v1), some (pm_i v2), u3] [pm_i (G 21 jx)] (mm x R Z Y o A c G g)))) rfl ?_
    refine (g_ok (f := 21) (by decide) rfl).trans ?_
    refine (ix_ok (j := j1) e1 l1 (by decide)).trans ?_
    rfl
  exact pW_if 1 (c := G 21 j1 = 0) (fun call n => rfl) k1 k2
set_option maxRecDepth 20000 in
theorem b100_78 (hR : RS R) {u0 : Option pm_V} {u1 : Option pm_V} {u2 : Option pm_V} {u3 : Option pm_V}   (k : Q (.inl (some (pm_i (-nI 1))), (mm x R Z Y o A c G g))) : pW ns d 100 78 [u0, u1, u2, u3] [] (mm x R Z Y o A c G g) Q := by
  refine pW_ret 2 (fun call n => ?_) k
  rfl
set_option maxRecDepth 20000 in
theorem b100_52 (hR : RS R) {v1 : Int32} {v2 : Int32} {u3 : Option pm_V} {j1 : Nat} {j2 : Nat} (e1 : v1 = nI j1) (l1 : j1 < 8) (e2 : ((nI 16) * v1) + ((((G 28 j1) - (nI 1)) - v2) - (((G 28 j1) - (nI 1)) - v2) / (nI 16) * (nI 16)) = nI j2) (l2 : j2 < 128)  (k : Q (.inl (some (pm_i (G 40 j2))), (mm x R Z Y o A c G g))) : pW ns d 100 52 [some (pm_r 20 0), some (pm_i v1), some (pm_i v2), u3] [] (mm x R Z Y o A c G g) Q := by
  refine pW_eq 2 (pc' := 56) (L' := [some (pm_r 20 0), some (pm_i v1), some (pm_i v2), u3]) (S' := [pm_r 40 0]) (M' := (mm x R Z Y o A c G g)) (fun call n => ?_) ?_
  · refine Eq.trans (b := pm_g (mm x R Z Y o A c G g) 20 0 (pm_go call ns d 100 n 56 [some (pm_r 20 0), some (pm_i v1), some (pm_i v2), u3] [pm_a (R 20 0 21)] (mm x R Z Y o A c G g))) rfl ?_
    refine (g_ok (f := 20) (by decide) rfl).trans ?_
    exact (congrArg (fun z => pm_go call ns d 100 n 56 [some (pm_r 20 0), some (pm_i v1), some (pm_i v2), u3] [pm_a z] (mm x R Z Y o A c G g)) (rs_20_21 hR))
  refine pW_eq 5 (pc' := 64) (L' := [some (pm_r 20 0), some (pm_i v1), some (pm_i v2), u3]) (S' := [pm_r 28 0, pm_i ((nI 16) * v1), pm_r 40 0]) (M' := (mm x R Z Y o A c G g)) (fun call n => ?_) ?_
  · refine Eq.trans (b := pm_g (mm x R Z Y o A c G g) 20 0 (pm_go call ns d 100 n 64 [some (pm_r 20 0), some (pm_i v1), some (pm_i v2), u3] [pm_a (R 20 0 8), pm_i ((nI 16) * v1), pm_r 40 0] (mm x R Z Y o A c G g))) rfl ?_
    refine (g_ok (f := 20) (by decide) rfl).trans ?_
    exact (congrArg (fun z => pm_go call ns d 100 n 64 [some (pm_r 20 0), some (pm_i v1), some (pm_i v2), u3] [pm_a z, pm_i ((nI 16) * v1), pm_r 40 0] (mm x R Z Y o A c G g)) (rs_20_8 hR))
  refine pW_eq 2 (pc' := 66) (L' := [some (pm_r 20 0), some (pm_i v1), some (pm_i v2), u3]) (S' := [pm_i (G 28 j1), pm_i ((nI 16) * v1), pm_r 40 0]) (M' := (mm x R Z Y o A c G g)) (fun call n => ?_) ?_
  · refine Eq.trans (b := pm_g (mm x R Z Y o A c G g) 28 0 (pm_ix (v1) 8 (fun jx => pm_go call ns d 100 n 66 [some (pm_r 20 0), some (pm_i v1), some (pm_i v2), u3] [pm_i (G 28 jx), pm_i ((nI 16) * v1), pm_r 40 0] (mm x R Z Y o A c G g)))) rfl ?_
    refine (g_ok (f := 28) (by decide) rfl).trans ?_
    refine (ix_ok (j := j1) e1 l1 (by decide)).trans ?_
    rfl
  refine pW_eq 6 (pc' := 73) (L' := [some (pm_r 20 0), some (pm_i v1), some (pm_i v2), u3]) (S' := [pm_i ((((G 28 j1) - (nI 1)) - v2) - (((G 28 j1) - (nI 1)) - v2) / (nI 16) * (nI 16)), pm_i ((nI 16) * v1), pm_r 40 0]) (M' := (mm x R Z Y o A c G g)) (fun call n => ?_) ?_
  · refine Eq.trans (b := if (nI 16) = 0 then none else pm_go call ns d 100 n 73 [some (pm_r 20 0), some (pm_i v1), some (pm_i v2), u3] [pm_i ((((G 28 j1) - (nI 1)) - v2) - (((G 28 j1) - (nI 1)) - v2) / (nI 16) * (nI 16)), pm_i ((nI 16) * v1), pm_r 40 0] (mm x R Z Y o A c G g)) rfl ?_
    refine (if_neg (by decide)).trans ?_
    rfl
  refine pW_eq 2 (pc' := 75) (L' := [some (pm_r 20 0), some (pm_i v1), some (pm_i v2), u3]) (S' := [pm_i (G 40 j2)]) (M' := (mm x R Z Y o A c G g)) (fun call n => ?_) ?_
  · refine Eq.trans (b := pm_g (mm x R Z Y o A c G g) 40 0 (pm_ix (((nI 16) * v1) + ((((G 28 j1) - (nI 1)) - v2) - (((G 28 j1) - (nI 1)) - v2) / (nI 16) * (nI 16))) 128 (fun jx => pm_go call ns d 100 n 75 [some (pm_r 20 0), some (pm_i v1), some (pm_i v2), u3] [pm_i (G 40 jx)] (mm x R Z Y o A c G g)))) rfl ?_
    refine (g_ok (f := 40) (by decide) rfl).trans ?_
    refine (ix_ok (j := j2) e2 l2 (by decide)).trans ?_
    rfl
  refine pW_ret 2 (fun call n => ?_) k
  rfl
set_option maxRecDepth 20000 in
theorem b100_22 (hR : RS R) {v1 : Int32} {v2 : Int32} {u3 : Option pm_V}   (k1 : v2 < 0 → pW ns d 100 46 [some (pm_r 20 0), some (pm_i v1), some (pm_i v2), u3] [] (mm x R Z Y o A c G g) Q) (k2 : ¬ (v2 < 0) → pW ns d 100 26 [some (pm_r 20 0), some (pm_i v1), some (pm_i v2), u3] [] (mm x R Z Y o A c G g) Q) : pW ns d 100 22 [some (pm_r 20 0), some (pm_i v1), some (pm_i v2), u3] [] (mm x R Z Y o A c G g) Q := by
  exact pW_if 2 (c := v2 < 0) (fun call n => rfl) k1 k2
set_option maxRecDepth 20000 in
theorem b100_26 (hR : RS R) {v1 : Int32} {v2 : Int32} {u3 : Option pm_V}   (k1 : nI 16 ≤ v2 → pW ns d 100 46 [some (pm_r 20 0), some (pm_i v1), some (pm_i v2), u3] [] (mm x R Z Y o A c G g) Q) (k2 : ¬ (nI 16 ≤ v2) → pW ns d 100 32 [some (pm_r 20 0), some (pm_i v1), some (pm_i v2), u3] [] (mm x R Z Y o A c G g) Q) : pW ns d 100 26 [some (pm_r 20 0), some (pm_i v1), some (pm_i v2), u3] [] (mm x R Z Y o A c G g) Q := by
  exact pW_if 3 (c := nI 16 ≤ v2) (fun call n => rfl) k1 k2
set_option maxRecDepth 20000 in
theorem b100_32 (hR : RS R) {v1 : Int32} {v2 : Int32} {u3 : Option pm_V} {j1 : Nat} (e1 : v1 = nI j1) (l1 : j1 < 8)  (k1 : G 28 j1 ≤ v2 → pW ns d 100 46 [some (pm_r 20 0), some (pm_i v1), some (pm_i v2), u3] [] (mm x R Z Y o A c G g) Q) (k2 : ¬ (G 28 j1 ≤ v2) → pW ns d 100 42 [some (pm_r 20 0), some (pm_i v1), some (pm_i v2), u3] [] (mm x R Z Y o A c G g) Q) : pW ns d 100 32 [some (pm_r 20 0), some (pm_i v1), some (pm_i v2), u3] [] (mm x R Z Y o A c G g) Q := by
  refine pW_eq 3 (pc' := 37) (L' := [some (pm_r 20 0), some (pm_i v1), some (pm_i v2), u3]) (S' := [pm_r 28 0, pm_i v2]) (M' := (mm x R Z Y o A c G g)) (fun call n => ?_) ?_
  · refine Eq.trans (b := pm_g (mm x R Z Y o A c G g) 20 0 (pm_go call ns d 100 n 37 [some (pm_r 20 0), some (pm_i v1), some (pm_i v2), u3] [pm_a (R 20 0 8), pm_i v2] (mm x R Z Y o A c G g))) rfl ?_
    refine (g_ok (f := 20) (by decide) rfl).trans ?_
    exact (congrArg (fun z => pm_go call ns d 100 n 37 [some (pm_r 20 0), some (pm_i v1), some (pm_i v2), u3] [pm_a z, pm_i v2] (mm x R Z Y o A c G g)) (rs_20_8 hR))
  refine pW_eq 2 (pc' := 39) (L' := [some (pm_r 20 0), some (pm_i v1), some (pm_i v2), u3]) (S' := [pm_i (G 28 j1), pm_i v2]) (M' := (mm x R Z Y o A c G g)) (fun call n => ?_) ?_
  · refine Eq.trans (b := pm_g (mm x R Z Y o A c G g) 28 0 (pm_ix (v1) 8 (fun jx => pm_go call ns d 100 n 39 [some (pm_r 20 0), some (pm_i v1), some (pm_i v2), u3] [pm_i (G 28 jx), pm_i v2] (mm x R Z Y o A c G g)))) rfl ?_
    refine (g_ok (f := 28) (by decide) rfl).trans ?_
    refine (ix_ok (j := j1) e1 l1 (by decide)).trans ?_
    rfl
  exact pW_if 1 (c := G 28 j1 ≤ v2) (fun call n => rfl) k1 k2
set_option maxRecDepth 20000 in
theorem b100_42 (hR : RS R) {v1 : Int32} {v2 : Int32} {u3 : Option pm_V}   (k1 : nI 1 = 0 → pW ns d 100 78 [some (pm_r 20 0), some (pm_i v1), some (pm_i v2), some (pm_i (nI 1))] [] (mm x R Z Y o A c G g) Q) (k2 : ¬ (nI 1 = 0) → pW ns d 100 52 [some (pm_r 20 0), some (pm_i v1), some (pm_i v2), some (pm_i (nI 1))] [] (mm x R Z Y o A c G g) Q) : pW ns d 100 42 [some (pm_r 20 0), some (pm_i v1), some (pm_i v2), u3] [] (mm x R Z Y o A c G g) Q := by
  exact pW_if 5 (c := nI 1 = 0) (fun call n => rfl) k1 k2
set_option maxRecDepth 20000 in
theorem t100_10 (hR : RS R) {v1 : Int32} {v2 : Int32} {u3 : Option pm_V} {vs0 : Int32}  (k1 : (vs0 = 0) → Q (.inl (some (pm_i (-nI 1))), (mm x R Z Y o A c G g))) (k2 : (¬ (vs0 = 0)) → pW ns d 100 13 [some (pm_r 20 0), some (pm_i v1), some (pm_i v2), u3] [] (mm x R Z Y o A c G g) Q) : pW ns d 100 10 [some (pm_r 20 0), some (pm_i v1), some (pm_i v2), u3] [pm_i vs0] (mm x R Z Y o A c G g) Q := by
  refine b100_10 hR  (fun h1 => ?_) (fun h1 => ?_)
  · skip
    refine b100_46 hR   (fun h2 => ?_) (fun h2 => ?_)
    · skip
      exact b100_78 hR   (k1 h1)
    · exact absurd h2 (by decide)
  · skip
    exact (k2 h1)
set_option maxRecDepth 20000 in
theorem t100_46 (hR : RS R) {v1 : Int32} {v2 : Int32} {u3 : Option pm_V}  (k1 : Q (.inl (some (pm_i (-nI 1))), (mm x R Z Y o A c G g))) : pW ns d 100 46 [some (pm_r 20 0), some (pm_i v1), some (pm_i v2), u3] [] (mm x R Z Y o A c G g) Q := by
  refine b100_46 hR  (fun h1 => ?_) (fun h1 => ?_)
  · skip
    exact b100_78 hR   (k1 )
  · exact absurd h1 (by decide)
set_option maxRecDepth 20000 in
theorem t100_13 (hR : RS R) {v1 : Int32} {v2 : Int32} {u3 : Option pm_V} {j1 : Nat} (e1 : v1 = nI j1) (l1 : j1 < 8) (k1 : (G 21 j1 = 0) → Q (.inl (some (pm_i (-nI 1))), (mm x R Z Y o A c G g))) (k2 : (¬ (G 21 j1 = 0)) → (v2 < 0) → Q (.inl (some (pm_i (-nI 1))), (mm x R Z Y o A c G g))) (k3 : (¬ (G 21 j1 = 0)) → (¬ (v2 < 0)) → (nI 16 ≤ v2) → Q (.inl (some (pm_i (-nI 1))), (mm x R Z Y o A c G g))) (k4 : (¬ (G 21 j1 = 0)) → (¬ (v2 < 0)) → (¬ (nI 16 ≤ v2)) → (G 28 j1 ≤ v2) → Q (.inl (some (pm_i (-nI 1))), (mm x R Z Y o A c G g))) (k5 : (¬ (G 21 j1 = 0)) → (¬ (v2 < 0)) → (¬ (nI 16 ≤ v2)) → (¬ (G 28 j1 ≤ v2)) → pW ns d 100 52 [some (pm_r 20 0), some (pm_i v1), some (pm_i v2), some (pm_i (nI 1))] [] (mm x R Z Y o A c G g) Q) : pW ns d 100 13 [some (pm_r 20 0), some (pm_i v1), some (pm_i v2), u3] [] (mm x R Z Y o A c G g) Q := by
  refine b100_13 hR e1 l1 (fun h1 => ?_) (fun h1 => ?_)
  · skip
    refine b100_46 hR   (fun h2 => ?_) (fun h2 => ?_)
    · skip
      exact b100_78 hR   (k1 h1)
    · exact absurd h2 (by decide)
  · skip
    refine b100_22 hR   (fun h2 => ?_) (fun h2 => ?_)
    · skip
      refine b100_46 hR   (fun h3 => ?_) (fun h3 => ?_)
      · skip
        exact b100_78 hR   (k2 h1 h2)
      · exact absurd h3 (by decide)
    · skip
      refine b100_26 hR   (fun h3 => ?_) (fun h3 => ?_)
      · skip
        refine b100_46 hR   (fun h4 => ?_) (fun h4 => ?_)
        · skip
          exact b100_78 hR   (k3 h1 h2 h3)
        · exact absurd h4 (by decide)
      · skip
        refine b100_32 hR  e1 l1 (fun h4 => ?_) (fun h4 => ?_)
        · skip
          refine b100_46 hR   (fun h5 => ?_) (fun h5 => ?_)
          · skip
            exact b100_78 hR   (k4 h1 h2 h3 h4)
          · exact absurd h5 (by decide)
        · skip
          refine b100_42 hR   (fun h5 => ?_) (fun h5 => ?_)
          · exact absurd h5 (by decide)
          · skip
            exact (k5 h1 h2 h3 h4)
set_option maxRecDepth 20000 in
theorem t100_22 (hR : RS R) {v1 : Int32} {v2 : Int32} {u3 : Option pm_V}  (k1 : (v2 < 0) → Q (.inl (some (pm_i (-nI 1))), (mm x R Z Y o A c G g))) (k2 : (¬ (v2 < 0)) → (nI 16 ≤ v2) → Q (.inl (some (pm_i (-nI 1))), (mm x R Z Y o A c G g))) (k3 : (¬ (v2 < 0)) → (¬ (nI 16 ≤ v2)) → pW ns d 100 32 [some (pm_r 20 0), some (pm_i v1), some (pm_i v2), u3] [] (mm x R Z Y o A c G g) Q) : pW ns d 100 22 [some (pm_r 20 0), some (pm_i v1), some (pm_i v2), u3] [] (mm x R Z Y o A c G g) Q := by
  refine b100_22 hR  (fun h1 => ?_) (fun h1 => ?_)
  · skip
    refine b100_46 hR   (fun h2 => ?_) (fun h2 => ?_)
    · skip
      exact b100_78 hR   (k1 h1)
    · exact absurd h2 (by decide)
  · skip
    refine b100_26 hR   (fun h2 => ?_) (fun h2 => ?_)
    · skip
      refine b100_46 hR   (fun h3 => ?_) (fun h3 => ?_)
      · skip
        exact b100_78 hR   (k2 h1 h2)
      · exact absurd h3 (by decide)
    · skip
      exact (k3 h1 h2)
set_option maxRecDepth 20000 in
theorem t100_26 (hR : RS R) {v1 : Int32} {v2 : Int32} {u3 : Option pm_V}  (k1 : (nI 16 ≤ v2) → Q (.inl (some (pm_i (-nI 1))), (mm x R Z Y o A c G g))) (k2 : (¬ (nI 16 ≤ v2)) → pW ns d 100 32 [some (pm_r 20 0), some (pm_i v1), some (pm_i v2), u3] [] (mm x R Z Y o A c G g) Q) : pW ns d 100 26 [some (pm_r 20 0), some (pm_i v1), some (pm_i v2), u3] [] (mm x R Z Y o A c G g) Q := by
  refine b100_26 hR  (fun h1 => ?_) (fun h1 => ?_)
  · skip
    refine b100_46 hR   (fun h2 => ?_) (fun h2 => ?_)
    · skip
      exact b100_78 hR   (k1 h1)
    · exact absurd h2 (by decide)
  · skip
    exact (k2 h1)
set_option maxRecDepth 20000 in
theorem t100_32 (hR : RS R) {v1 : Int32} {v2 : Int32} {u3 : Option pm_V} {j1 : Nat} (e1 : v1 = nI j1) (l1 : j1 < 8) (k1 : (G 28 j1 ≤ v2) → Q (.inl (some (pm_i (-nI 1))), (mm x R Z Y o A c G g))) (k2 : (¬ (G 28 j1 ≤ v2)) → pW ns d 100 52 [some (pm_r 20 0), some (pm_i v1), some (pm_i v2), some (pm_i (nI 1))] [] (mm x R Z Y o A c G g) Q) : pW ns d 100 32 [some (pm_r 20 0), some (pm_i v1), some (pm_i v2), u3] [] (mm x R Z Y o A c G g) Q := by
  refine b100_32 hR e1 l1 (fun h1 => ?_) (fun h1 => ?_)
  · skip
    refine b100_46 hR   (fun h2 => ?_) (fun h2 => ?_)
    · skip
      exact b100_78 hR   (k1 h1)
    · exact absurd h2 (by decide)
  · skip
    refine b100_42 hR   (fun h2 => ?_) (fun h2 => ?_)
    · exact absurd h2 (by decide)
    · skip
      exact (k2 h1)
set_option maxRecDepth 20000 in
theorem t100_42 (hR : RS R) {v1 : Int32} {v2 : Int32} {u3 : Option pm_V}  (k1 : pW ns d 100 52 [some (pm_r 20 0), some (pm_i v1), some (pm_i v2), some (pm_i (nI 1))] [] (mm x R Z Y o A c G g) Q) : pW ns d 100 42 [some (pm_r 20 0), some (pm_i v1), some (pm_i v2), u3] [] (mm x R Z Y o A c G g) Q := by
  refine b100_42 hR  (fun h1 => ?_) (fun h1 => ?_)
  · exact absurd h1 (by decide)
  · skip
    exact (k1 )
/-! 101 JobLayerModel.terminal -/
set_option maxRecDepth 20000 in
theorem b101_0 (hR : RS R) {v1 : Int32}   (k0 : v1.toInt = -5 → pW ns d 101 60 [some (pm_r 20 0), some (pm_i v1)] [] (mm x R Z Y o A c (pm_v G 20 0 (nI 0)) g) Q) (k1 : v1.toInt = -4 → pW ns d 101 55 [some (pm_r 20 0), some (pm_i v1)] [] (mm x R Z Y o A c (pm_v G 20 0 (nI 0)) g) Q) (k2 : v1.toInt = -3 → pW ns d 101 50 [some (pm_r 20 0), some (pm_i v1)] [] (mm x R Z Y o A c (pm_v G 20 0 (nI 0)) g) Q) (k3 : v1.toInt = -2 → pW ns d 101 45 [some (pm_r 20 0), some (pm_i v1)] [] (mm x R Z Y o A c (pm_v G 20 0 (nI 0)) g) Q) (k4 : v1.toInt = -1 → pW ns d 101 40 [some (pm_r 20 0), some (pm_i v1)] [] (mm x R Z Y o A c (pm_v G 20 0 (nI 0)) g) Q) (kd : ¬ v1.toInt = -5 → ¬ v1.toInt = -4 → ¬ v1.toInt = -3 → ¬ v1.toInt = -2 → ¬ v1.toInt = -1 → pW ns d 101 65 [some (pm_r 20 0), some (pm_i v1)] [] (mm x R Z Y o A c (pm_v G 20 0 (nI 0)) g) Q) : pW ns d 101 0 [some (pm_r 20 0), some (pm_i v1)] [] (mm x R Z Y o A c G g) Q := by
  refine pW_eq 3 (pc' := 5) (L' := [some (pm_r 20 0), some (pm_i v1)]) (S' := []) (M' := (mm x R Z Y o A c (pm_v G 20 0 (nI 0)) g)) (fun call n => ?_) ?_
  · refine Eq.trans (b := pm_g (mm x R Z Y o A c G g) 20 0 (pm_go call ns d 101 n 5 [some (pm_r 20 0), some (pm_i v1)] [] (pm_u (mA Z A G) 20 0 0 (nI 0), mB Y o c g, R, pm_tot, x))) rfl ?_
    refine (g_ok (f := 20) (by decide) rfl).trans ?_
    exact (congrArg (fun z => pm_go call ns d 101 n 5 [some (pm_r 20 0), some (pm_i v1)] [] (z, mB Y o c g, R, pm_tot, x)) (uG (by decide)))
  by_cases h0 : v1.toInt = -5
  · refine pW_eq 2 (fun call n => ?_) (k0 h0)
    refine Eq.trans (b := pm_sw (v1.toInt) (-5) [54, 49, 44, 39, 34] 59 (fun oo => pm_j 6 oo fun tt => pm_go call ns d 101 n tt [some (pm_r 20 0), some (pm_i v1)] [] (mm x R Z Y o A c (pm_v G 20 0 (nI 0)) g))) rfl ?_
    rw [h0]
    rfl
  by_cases h1 : v1.toInt = -4
  · refine pW_eq 2 (fun call n => ?_) (k1 h1)
    refine Eq.trans (b := pm_sw (v1.toInt) (-5) [54, 49, 44, 39, 34] 59 (fun oo => pm_j 6 oo fun tt => pm_go call ns d 101 n tt [some (pm_r 20 0), some (pm_i v1)] [] (mm x R Z Y o A c (pm_v G 20 0 (nI 0)) g))) rfl ?_
    rw [h1]
    rfl
  by_cases h2 : v1.toInt = -3
  · refine pW_eq 2 (fun call n => ?_) (k2 h2)
    refine Eq.trans (b := pm_sw (v1.toInt) (-5) [54, 49, 44, 39, 34] 59 (fun oo => pm_j 6 oo fun tt => pm_go call ns d 101 n tt [some (pm_r 20 0), some (pm_i v1)] [] (mm x R Z Y o A c (pm_v G 20 0 (nI 0)) g))) rfl ?_
    rw [h2]
    rfl
  by_cases h3 : v1.toInt = -2
  · refine pW_eq 2 (fun call n => ?_) (k3 h3)
    refine Eq.trans (b := pm_sw (v1.toInt) (-5) [54, 49, 44, 39, 34] 59 (fun oo => pm_j 6 oo fun tt => pm_go call ns d 101 n tt [some (pm_r 20 0), some (pm_i v1)] [] (mm x R Z Y o A c (pm_v G 20 0 (nI 0)) g))) rfl ?_
    rw [h3]
    rfl
  by_cases h4 : v1.toInt = -1
  · refine pW_eq 2 (fun call n => ?_) (k4 h4)
    refine Eq.trans (b := pm_sw (v1.toInt) (-5) [54, 49, 44, 39, 34] 59 (fun oo => pm_j 6 oo fun tt => pm_go call ns d 101 n tt [some (pm_r 20 0), some (pm_i v1)] [] (mm x R Z Y o A c (pm_v G 20 0 (nI 0)) g))) rfl ?_
    rw [h4]
    rfl
  refine pW_eq 2 (fun call n => ?_) (kd h0 h1 h2 h3 h4)
  refine Eq.trans (b := pm_sw (v1.toInt) (-5) [54, 49, 44, 39, 34] 59 (fun oo => pm_j 6 oo fun tt => pm_go call ns d 101 n tt [some (pm_r 20 0), some (pm_i v1)] [] (mm x R Z Y o A c (pm_v G 20 0 (nI 0)) g))) rfl ?_
  refine (if_neg h0).trans ?_
  refine (if_neg h1).trans ?_
  refine (if_neg h2).trans ?_
  refine (if_neg h3).trans ?_
  refine (if_neg h4).trans ?_
  rfl
set_option maxRecDepth 20000 in
theorem b101_60 (hR : RS R) {u1 : Option pm_V}  {x2 : Nat} {o2 : Int64} {A2 : Nat → Nat → Nat → Int32} {c2 : Nat → Int64} {G2 : Nat → Nat → Int32} {g2 : Nat → Int64} {y : Int32} (hE : pE ns d 51 [pm_r 20 0] (mm x R Z Y o A c G g) (.inl (some (pm_i y)), (mm x2 R Z Y o2 A2 c2 G2 g2))) (k : pW ns d 101 64 [some (pm_r 20 0), u1] [pm_i y] (mm x2 R Z Y o2 A2 c2 G2 g2) Q) : pW ns d 101 60 [some (pm_r 20 0), u1] [] (mm x R Z Y o A c G g) Q := by
  refine pW_call (pc' := 61) (r := []) (L' := [some (pm_r 20 0), u1]) 2 (fun call n => ?_) hE k
  exact Eq.trans (b := pm_g (mm x R Z Y o A c G g) 20 0 (pm_cl call 101 (pm_go call ns d 101 n) 61 51 [pm_r 20 0] [] [some (pm_r 20 0), u1] (mm x R Z Y o A c G g))) rfl (g_ok (f := 20) (by decide) rfl)
set_option maxRecDepth 20000 in
theorem b101_55 (hR : RS R) {u1 : Option pm_V}   (k : Q (.inl (some (pm_i (G 20 28))), (mm x R Z Y o A c G g))) : pW ns d 101 55 [some (pm_r 20 0), u1] [] (mm x R Z Y o A c G g) Q := by
  refine pW_eq 2 (pc' := 59) (L' := [some (pm_r 20 0), u1]) (S' := [pm_i (G 20 28)]) (M' := (mm x R Z Y o A c G g)) (fun call n => ?_) ?_
  · refine Eq.trans (b := pm_g (mm x R Z Y o A c G g) 20 0 (pm_go call ns d 101 n 59 [some (pm_r 20 0), u1] [pm_i (G 20 28)] (mm x R Z Y o A c G g))) rfl ?_
    refine (g_ok (f := 20) (by decide) rfl).trans ?_
    rfl
  refine pW_ret 1 (fun call n => ?_) k
  rfl
set_option maxRecDepth 20000 in
theorem b101_50 (hR : RS R) {u1 : Option pm_V}   (k : Q (.inl (some (pm_i (G 20 26))), (mm x R Z Y o A c G g))) : pW ns d 101 50 [some (pm_r 20 0), u1] [] (mm x R Z Y o A c G g) Q := by
  refine pW_eq 2 (pc' := 54) (L' := [some (pm_r 20 0), u1]) (S' := [pm_i (G 20 26)]) (M' := (mm x R Z Y o A c G g)) (fun call n => ?_) ?_
  · refine Eq.trans (b := pm_g (mm x R Z Y o A c G g) 20 0 (pm_go call ns d 101 n 54 [some (pm_r 20 0), u1] [pm_i (G 20 26)] (mm x R Z Y o A c G g))) rfl ?_
    refine (g_ok (f := 20) (by decide) rfl).trans ?_
    rfl
  refine pW_ret 1 (fun call n => ?_) k
  rfl
set_option maxRecDepth 20000 in
theorem b101_45 (hR : RS R) {u1 : Option pm_V}  {x2 : Nat} {o2 : Int64} {A2 : Nat → Nat → Nat → Int32} {c2 : Nat → Int64} {G2 : Nat → Nat → Int32} {g2 : Nat → Int64} {y : Int32} (hE : pE ns d 76 [pm_r 20 0] (mm x R Z Y o A c G g) (.inl (some (pm_i y)), (mm x2 R Z Y o2 A2 c2 G2 g2))) (k : pW ns d 101 49 [some (pm_r 20 0), u1] [pm_i y] (mm x2 R Z Y o2 A2 c2 G2 g2) Q) : pW ns d 101 45 [some (pm_r 20 0), u1] [] (mm x R Z Y o A c G g) Q := by
  refine pW_call (pc' := 46) (r := []) (L' := [some (pm_r 20 0), u1]) 2 (fun call n => ?_) hE k
  exact Eq.trans (b := pm_g (mm x R Z Y o A c G g) 20 0 (pm_cl call 101 (pm_go call ns d 101 n) 46 76 [pm_r 20 0] [] [some (pm_r 20 0), u1] (mm x R Z Y o A c G g))) rfl (g_ok (f := 20) (by decide) rfl)
set_option maxRecDepth 20000 in
theorem b101_40 (hR : RS R) {u1 : Option pm_V}   (k : Q (.inl (some (pm_i (G 20 25))), (mm x R Z Y o A c G g))) : pW ns d 101 40 [some (pm_r 20 0), u1] [] (mm x R Z Y o A c G g) Q := by
  refine pW_eq 2 (pc' := 44) (L' := [some (pm_r 20 0), u1]) (S' := [pm_i (G 20 25)]) (M' := (mm x R Z Y o A c G g)) (fun call n => ?_) ?_
  · refine Eq.trans (b := pm_g (mm x R Z Y o A c G g) 20 0 (pm_go call ns d 101 n 44 [some (pm_r 20 0), u1] [pm_i (G 20 25)] (mm x R Z Y o A c G g))) rfl ?_
    refine (g_ok (f := 20) (by decide) rfl).trans ?_
    rfl
  refine pW_ret 1 (fun call n => ?_) k
  rfl
set_option maxRecDepth 20000 in
theorem b101_65 (hR : RS R) {v1 : Int32}   (k1 : v1 < 0 → pW ns d 101 83 [some (pm_r 20 0), some (pm_i v1)] [] (mm x R Z Y o A c G g) Q) (k2 : ¬ (v1 < 0) → pW ns d 101 69 [some (pm_r 20 0), some (pm_i v1)] [] (mm x R Z Y o A c G g) Q) : pW ns d 101 65 [some (pm_r 20 0), some (pm_i v1)] [] (mm x R Z Y o A c G g) Q := by
  exact pW_if 2 (c := v1 < 0) (fun call n => rfl) k1 k2
set_option maxRecDepth 20000 in
theorem b101_64 (hR : RS R) {u0 : Option pm_V} {u1 : Option pm_V} {vs0 : Int32}   (k : Q (.inl (some (pm_i vs0)), (mm x R Z Y o A c G g))) : pW ns d 101 64 [u0, u1] [pm_i vs0] (mm x R Z Y o A c G g) Q := by
  refine pW_ret 1 (fun call n => ?_) k
  rfl
set_option maxRecDepth 20000 in
theorem b101_49 (hR : RS R) {u0 : Option pm_V} {u1 : Option pm_V} {vs0 : Int32}   (k : Q (.inl (some (pm_i vs0)), (mm x R Z Y o A c G g))) : pW ns d 101 49 [u0, u1] [pm_i vs0] (mm x R Z Y o A c G g) Q := by
  refine pW_ret 1 (fun call n => ?_) k
  rfl
set_option maxRecDepth 20000 in
theorem b101_83 (hR : RS R) {u0 : Option pm_V} {u1 : Option pm_V}   (k : Q (.inl (some (pm_i (-nI 1))), (mm x R Z Y o A c G g))) : pW ns d 101 83 [u0, u1] [] (mm x R Z Y o A c G g) Q := by
  refine pW_ret 3 (fun call n => ?_) k
  rfl
set_option maxRecDepth 20000 in
theorem b101_69 (hR : RS R) {v1 : Int32}   (k1 : nI 63 < v1 → pW ns d 101 83 [some (pm_r 20 0), some (pm_i v1)] [] (mm x R Z Y o A c G g) Q) (k2 : ¬ (nI 63 < v1) → pW ns d 101 75 [some (pm_r 20 0), some (pm_i v1)] [] (mm x R Z Y o A c G g) Q) : pW ns d 101 69 [some (pm_r 20 0), some (pm_i v1)] [] (mm x R Z Y o A c G g) Q := by
  exact pW_if 3 (c := nI 63 < v1) (fun call n => rfl) k1 k2
set_option maxRecDepth 20000 in
theorem b101_75 (hR : RS R) {v1 : Int32}   (k1 : v1 < G 20 28 → pW ns d 101 87 [some (pm_r 20 0), some (pm_i v1)] [] (mm x R Z Y o A c G g) Q) (k2 : ¬ (v1 < G 20 28) → pW ns d 101 83 [some (pm_r 20 0), some (pm_i v1)] [] (mm x R Z Y o A c G g) Q) : pW ns d 101 75 [some (pm_r 20 0), some (pm_i v1)] [] (mm x R Z Y o A c G g) Q := by
  refine pW_eq 3 (pc' := 80) (L' := [some (pm_r 20 0), some (pm_i v1)]) (S' := [pm_i (G 20 28), pm_i v1]) (M' := (mm x R Z Y o A c G g)) (fun call n => ?_) ?_
  · refine Eq.trans (b := pm_g (mm x R Z Y o A c G g) 20 0 (pm_go call ns d 101 n 80 [some (pm_r 20 0), some (pm_i v1)] [pm_i (G 20 28), pm_i v1] (mm x R Z Y o A c G g))) rfl ?_
    refine (g_ok (f := 20) (by decide) rfl).trans ?_
    rfl
  exact pW_if 1 (c := v1 < G 20 28) (fun call n => rfl) k1 k2
set_option maxRecDepth 20000 in
theorem b101_87 (hR : RS R) {v1 : Int32} {j1 : Nat} (e1 : (((G 20 28) - (nI 1)) - v1) - (((G 20 28) - (nI 1)) - v1) / (nI 64) * (nI 64) = nI j1) (l1 : j1 < 64)  (k : Q (.inl (some (pm_i (G 46 j1))), (mm x R Z Y o A c G g))) : pW ns d 101 87 [some (pm_r 20 0), some (pm_i v1)] [] (mm x R Z Y o A c G g) Q := by
  refine pW_eq 2 (pc' := 91) (L' := [some (pm_r 20 0), some (pm_i v1)]) (S' := [pm_r 46 0]) (M' := (mm x R Z Y o A c G g)) (fun call n => ?_) ?_
  · refine Eq.trans (b := pm_g (mm x R Z Y o A c G g) 20 0 (pm_go call ns d 101 n 91 [some (pm_r 20 0), some (pm_i v1)] [pm_a (R 20 0 31)] (mm x R Z Y o A c G g))) rfl ?_
    refine (g_ok (f := 20) (by decide) rfl).trans ?_
    exact (congrArg (fun z => pm_go call ns d 101 n 91 [some (pm_r 20 0), some (pm_i v1)] [pm_a z] (mm x R Z Y o A c G g)) (rs_20_31 hR))
  refine pW_eq 2 (pc' := 95) (L' := [some (pm_r 20 0), some (pm_i v1)]) (S' := [pm_i (G 20 28), pm_r 46 0]) (M' := (mm x R Z Y o A c G g)) (fun call n => ?_) ?_
  · refine Eq.trans (b := pm_g (mm x R Z Y o A c G g) 20 0 (pm_go call ns d 101 n 95 [some (pm_r 20 0), some (pm_i v1)] [pm_i (G 20 28), pm_r 46 0] (mm x R Z Y o A c G g))) rfl ?_
    refine (g_ok (f := 20) (by decide) rfl).trans ?_
    rfl
  refine pW_eq 6 (pc' := 102) (L' := [some (pm_r 20 0), some (pm_i v1)]) (S' := [pm_i ((((G 20 28) - (nI 1)) - v1) - (((G 20 28) - (nI 1)) - v1) / (nI 64) * (nI 64)), pm_r 46 0]) (M' := (mm x R Z Y o A c G g)) (fun call n => ?_) ?_
  · refine Eq.trans (b := if (nI 64) = 0 then none else pm_go call ns d 101 n 102 [some (pm_r 20 0), some (pm_i v1)] [pm_i ((((G 20 28) - (nI 1)) - v1) - (((G 20 28) - (nI 1)) - v1) / (nI 64) * (nI 64)), pm_r 46 0] (mm x R Z Y o A c G g)) rfl ?_
    refine (if_neg (by decide)).trans ?_
    rfl
  refine pW_eq 1 (pc' := 103) (L' := [some (pm_r 20 0), some (pm_i v1)]) (S' := [pm_i (G 46 j1)]) (M' := (mm x R Z Y o A c G g)) (fun call n => ?_) ?_
  · refine Eq.trans (b := pm_g (mm x R Z Y o A c G g) 46 0 (pm_ix ((((G 20 28) - (nI 1)) - v1) - (((G 20 28) - (nI 1)) - v1) / (nI 64) * (nI 64)) 64 (fun jx => pm_go call ns d 101 n 103 [some (pm_r 20 0), some (pm_i v1)] [pm_i (G 46 jx)] (mm x R Z Y o A c G g)))) rfl ?_
    refine (g_ok (f := 46) (by decide) rfl).trans ?_
    refine (ix_ok (j := j1) e1 l1 (by decide)).trans ?_
    rfl
  refine pW_ret 1 (fun call n => ?_) k
  rfl
set_option maxRecDepth 20000 in
theorem t101_65 (hR : RS R) {v1 : Int32}  (k1 : (v1 < 0) → Q (.inl (some (pm_i (-nI 1))), (mm x R Z Y o A c G g))) (k2 : (¬ (v1 < 0)) → (nI 63 < v1) → Q (.inl (some (pm_i (-nI 1))), (mm x R Z Y o A c G g))) (k3 : (¬ (v1 < 0)) → (¬ (nI 63 < v1)) → (v1 < G 20 28) → pW ns d 101 87 [some (pm_r 20 0), some (pm_i v1)] [] (mm x R Z Y o A c G g) Q) (k4 : (¬ (v1 < 0)) → (¬ (nI 63 < v1)) → (¬ (v1 < G 20 28)) → Q (.inl (some (pm_i (-nI 1))), (mm x R Z Y o A c G g))) : pW ns d 101 65 [some (pm_r 20 0), some (pm_i v1)] [] (mm x R Z Y o A c G g) Q := by
  refine b101_65 hR  (fun h1 => ?_) (fun h1 => ?_)
  · skip
    exact b101_83 hR   (k1 h1)
  · skip
    refine b101_69 hR   (fun h2 => ?_) (fun h2 => ?_)
    · skip
      exact b101_83 hR   (k2 h1 h2)
    · skip
      refine b101_75 hR   (fun h3 => ?_) (fun h3 => ?_)
      · skip
        exact (k3 h1 h2 h3)
      · skip
        exact b101_83 hR   (k4 h1 h2 h3)
set_option maxRecDepth 20000 in
theorem t101_69 (hR : RS R) {v1 : Int32}  (k1 : (nI 63 < v1) → Q (.inl (some (pm_i (-nI 1))), (mm x R Z Y o A c G g))) (k2 : (¬ (nI 63 < v1)) → (v1 < G 20 28) → pW ns d 101 87 [some (pm_r 20 0), some (pm_i v1)] [] (mm x R Z Y o A c G g) Q) (k3 : (¬ (nI 63 < v1)) → (¬ (v1 < G 20 28)) → Q (.inl (some (pm_i (-nI 1))), (mm x R Z Y o A c G g))) : pW ns d 101 69 [some (pm_r 20 0), some (pm_i v1)] [] (mm x R Z Y o A c G g) Q := by
  refine b101_69 hR  (fun h1 => ?_) (fun h1 => ?_)
  · skip
    exact b101_83 hR   (k1 h1)
  · skip
    refine b101_75 hR   (fun h2 => ?_) (fun h2 => ?_)
    · skip
      exact (k2 h1 h2)
    · skip
      exact b101_83 hR   (k3 h1 h2)
set_option maxRecDepth 20000 in
theorem t101_75 (hR : RS R) {v1 : Int32}  (k1 : (v1 < G 20 28) → pW ns d 101 87 [some (pm_r 20 0), some (pm_i v1)] [] (mm x R Z Y o A c G g) Q) (k2 : (¬ (v1 < G 20 28)) → Q (.inl (some (pm_i (-nI 1))), (mm x R Z Y o A c G g))) : pW ns d 101 75 [some (pm_r 20 0), some (pm_i v1)] [] (mm x R Z Y o A c G g) Q := by
  refine b101_75 hR  (fun h1 => ?_) (fun h1 => ?_)
  · skip
    exact (k1 h1)
  · skip
    exact b101_83 hR   (k2 h1)
end BLK
