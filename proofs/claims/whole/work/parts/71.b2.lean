/-! @70.wp@ blocks, printed by program (wip/whole/gen/blk.py) -/
section BLK
variable {ns d x : Nat} {R : Nat → Nat → Nat → Option (Nat × Nat)} {Z A : Nat → Nat → Nat → Int32} {Y : Nat → Nat → Nat → Int64} {o : Int64} {c g : Nat → Int64} {G : Nat → Nat → Int32} {Q : pm_O × pm_M → Prop}
/-! 20 JobLayer.kthLatest -/
set_option maxRecDepth 20000 in
theorem b20_0 (hR : RS R) {i0 : Nat} {v1 : Int32} {v2 : Int32} (q0 : i0 < 8)  (k1 : v2 < 0 → pW ns d 20 15 [some (pm_r 12 i0), some (pm_i v1), some (pm_i v2)] [] (mm x R Z Y o A c G g) Q) (k2 : ¬ (v2 < 0) → pW ns d 20 4 [some (pm_r 12 i0), some (pm_i v1), some (pm_i v2)] [] (mm x R Z Y o A c G g) Q) : pW ns d 20 0 [some (pm_r 12 i0), some (pm_i v1), some (pm_i v2)] [] (mm x R Z Y o A c G g) Q := by
  exact pW_if 2 (c := v2 < 0) (fun call n => rfl) k1 k2
set_option maxRecDepth 20000 in
theorem b20_0a (hR : RS R) {v1 : Int32} {v2 : Int32}   (k1 : v2 < 0 → pW ns d 20 15 [some (pm_r 15 0), some (pm_i v1), some (pm_i v2)] [] (mm x R Z Y o A c G g) Q) (k2 : ¬ (v2 < 0) → pW ns d 20 4 [some (pm_r 15 0), some (pm_i v1), some (pm_i v2)] [] (mm x R Z Y o A c G g) Q) : pW ns d 20 0 [some (pm_r 15 0), some (pm_i v1), some (pm_i v2)] [] (mm x R Z Y o A c G g) Q := by
  exact pW_if 2 (c := v2 < 0) (fun call n => rfl) k1 k2
set_option maxRecDepth 20000 in
theorem b20_15 (hR : RS R) {u0 : Option pm_V} {u1 : Option pm_V} {u2 : Option pm_V}   (k : Q (.inl (some (pm_i (-nI 1))), (mm x R Z Y o A c G g))) : pW ns d 20 15 [u0, u1, u2] [] (mm x R Z Y o A c G g) Q := by
  refine pW_ret 2 (fun call n => ?_) k
  rfl
set_option maxRecDepth 20000 in
theorem b20_4 (hR : RS R) {i0 : Nat} {v1 : Int32} {v2 : Int32} (q0 : i0 < 8)  (k1 : nI 16 ≤ v2 → pW ns d 20 15 [some (pm_r 12 i0), some (pm_i v1), some (pm_i v2)] [] (mm x R Z Y o A c G g) Q) (k2 : ¬ (nI 16 ≤ v2) → pW ns d 20 10 [some (pm_r 12 i0), some (pm_i v1), some (pm_i v2)] [] (mm x R Z Y o A c G g) Q) : pW ns d 20 4 [some (pm_r 12 i0), some (pm_i v1), some (pm_i v2)] [] (mm x R Z Y o A c G g) Q := by
  refine pW_eq 3 (pc' := 7) (L' := [some (pm_r 12 i0), some (pm_i v1), some (pm_i v2)]) (S' := [pm_i (nI 16), pm_i v2]) (M' := (mm x R Z Y o A c G g)) (fun call n => ?_) ?_
  · refine Eq.trans (b := pm_g (mm x R Z Y o A c G g) 12 i0 (pm_go call ns d 20 n 7 [some (pm_r 12 i0), some (pm_i v1), some (pm_i v2)] [pm_i (nI 16), pm_i v2] (mm x R Z Y o A c G g))) rfl ?_
    refine (g_ok (f := 12) q0 rfl).trans ?_
    rfl
  exact pW_if 1 (c := nI 16 ≤ v2) (fun call n => rfl) k1 k2
set_option maxRecDepth 20000 in
theorem b20_4a (hR : RS R) {v1 : Int32} {v2 : Int32}   (k1 : nI 64 ≤ v2 → pW ns d 20 15 [some (pm_r 15 0), some (pm_i v1), some (pm_i v2)] [] (mm x R Z Y o A c G g) Q) (k2 : ¬ (nI 64 ≤ v2) → pW ns d 20 10 [some (pm_r 15 0), some (pm_i v1), some (pm_i v2)] [] (mm x R Z Y o A c G g) Q) : pW ns d 20 4 [some (pm_r 15 0), some (pm_i v1), some (pm_i v2)] [] (mm x R Z Y o A c G g) Q := by
  refine pW_eq 3 (pc' := 7) (L' := [some (pm_r 15 0), some (pm_i v1), some (pm_i v2)]) (S' := [pm_i (nI 64), pm_i v2]) (M' := (mm x R Z Y o A c G g)) (fun call n => ?_) ?_
  · refine Eq.trans (b := pm_g (mm x R Z Y o A c G g) 15 0 (pm_go call ns d 20 n 7 [some (pm_r 15 0), some (pm_i v1), some (pm_i v2)] [pm_i (nI 64), pm_i v2] (mm x R Z Y o A c G g))) rfl ?_
    refine (g_ok (f := 15) (by decide) rfl).trans ?_
    rfl
  exact pW_if 1 (c := nI 64 ≤ v2) (fun call n => rfl) k1 k2
set_option maxRecDepth 20000 in
theorem b20_10 (hR : RS R) {i0 : Nat} {v1 : Int32} {v2 : Int32} (q0 : i0 < 8)  (k1 : v2 < v1 → pW ns d 20 17 [some (pm_r 12 i0), some (pm_i v1), some (pm_i v2)] [] (mm x R Z Y o A c G g) Q) (k2 : ¬ (v2 < v1) → pW ns d 20 15 [some (pm_r 12 i0), some (pm_i v1), some (pm_i v2)] [] (mm x R Z Y o A c G g) Q) : pW ns d 20 10 [some (pm_r 12 i0), some (pm_i v1), some (pm_i v2)] [] (mm x R Z Y o A c G g) Q := by
  exact pW_if 3 (c := v2 < v1) (fun call n => rfl) k1 k2
set_option maxRecDepth 20000 in
theorem b20_10a (hR : RS R) {v1 : Int32} {v2 : Int32}   (k1 : v2 < v1 → pW ns d 20 17 [some (pm_r 15 0), some (pm_i v1), some (pm_i v2)] [] (mm x R Z Y o A c G g) Q) (k2 : ¬ (v2 < v1) → pW ns d 20 15 [some (pm_r 15 0), some (pm_i v1), some (pm_i v2)] [] (mm x R Z Y o A c G g) Q) : pW ns d 20 10 [some (pm_r 15 0), some (pm_i v1), some (pm_i v2)] [] (mm x R Z Y o A c G g) Q := by
  exact pW_if 3 (c := v2 < v1) (fun call n => rfl) k1 k2
set_option maxRecDepth 20000 in
theorem b20_17 (hR : RS R) {i0 : Nat} {v1 : Int32} {v2 : Int32} {j1 : Nat} (q0 : i0 < 8) (e1 : ((v1 - (nI 1)) - v2) - ((v1 - (nI 1)) - v2) / (nI 16) * (nI 16) = nI j1) (l1 : j1 < 16)  (k : Q (.inl (some (pm_i (A 12 i0 j1))), (mm x R Z Y o A c G g))) : pW ns d 20 17 [some (pm_r 12 i0), some (pm_i v1), some (pm_i v2)] [] (mm x R Z Y o A c G g) Q := by
  refine pW_eq 8 (pc' := 25) (L' := [some (pm_r 12 i0), some (pm_i v1), some (pm_i v2)]) (S' := [pm_i (nI 16), pm_i ((v1 - (nI 1)) - v2), pm_r 12 i0]) (M' := (mm x R Z Y o A c G g)) (fun call n => ?_) ?_
  · refine Eq.trans (b := pm_g (mm x R Z Y o A c G g) 12 i0 (pm_go call ns d 20 n 25 [some (pm_r 12 i0), some (pm_i v1), some (pm_i v2)] [pm_i (nI 16), pm_i ((v1 - (nI 1)) - v2), pm_r 12 i0] (mm x R Z Y o A c G g))) rfl ?_
    refine (g_ok (f := 12) q0 rfl).trans ?_
    rfl
  refine pW_eq 1 (pc' := 26) (L' := [some (pm_r 12 i0), some (pm_i v1), some (pm_i v2)]) (S' := [pm_i (((v1 - (nI 1)) - v2) - ((v1 - (nI 1)) - v2) / (nI 16) * (nI 16)), pm_r 12 i0]) (M' := (mm x R Z Y o A c G g)) (fun call n => ?_) ?_
  · refine Eq.trans (b := if (nI 16) = 0 then none else pm_go call ns d 20 n 26 [some (pm_r 12 i0), some (pm_i v1), some (pm_i v2)] [pm_i (((v1 - (nI 1)) - v2) - ((v1 - (nI 1)) - v2) / (nI 16) * (nI 16)), pm_r 12 i0] (mm x R Z Y o A c G g)) rfl ?_
    refine (if_neg (by decide)).trans ?_
    rfl
  refine pW_eq 1 (pc' := 27) (L' := [some (pm_r 12 i0), some (pm_i v1), some (pm_i v2)]) (S' := [pm_i (A 12 i0 j1)]) (M' := (mm x R Z Y o A c G g)) (fun call n => ?_) ?_
  · refine Eq.trans (b := pm_g (mm x R Z Y o A c G g) 12 i0 (pm_ix (((v1 - (nI 1)) - v2) - ((v1 - (nI 1)) - v2) / (nI 16) * (nI 16)) 16 (fun jx => pm_go call ns d 20 n 27 [some (pm_r 12 i0), some (pm_i v1), some (pm_i v2)] [pm_i (A 12 i0 jx)] (mm x R Z Y o A c G g)))) rfl ?_
    refine (g_ok (f := 12) q0 rfl).trans ?_
    refine (ix_ok (j := j1) e1 l1 (by decide)).trans ?_
    rfl
  refine pW_ret 1 (fun call n => ?_) k
  rfl
set_option maxRecDepth 20000 in
theorem b20_17a (hR : RS R) {v1 : Int32} {v2 : Int32} {j1 : Nat} (e1 : ((v1 - (nI 1)) - v2) - ((v1 - (nI 1)) - v2) / (nI 64) * (nI 64) = nI j1) (l1 : j1 < 64)  (k : Q (.inl (some (pm_i (A 15 0 j1))), (mm x R Z Y o A c G g))) : pW ns d 20 17 [some (pm_r 15 0), some (pm_i v1), some (pm_i v2)] [] (mm x R Z Y o A c G g) Q := by
  refine pW_eq 8 (pc' := 25) (L' := [some (pm_r 15 0), some (pm_i v1), some (pm_i v2)]) (S' := [pm_i (nI 64), pm_i ((v1 - (nI 1)) - v2), pm_r 15 0]) (M' := (mm x R Z Y o A c G g)) (fun call n => ?_) ?_
  · refine Eq.trans (b := pm_g (mm x R Z Y o A c G g) 15 0 (pm_go call ns d 20 n 25 [some (pm_r 15 0), some (pm_i v1), some (pm_i v2)] [pm_i (nI 64), pm_i ((v1 - (nI 1)) - v2), pm_r 15 0] (mm x R Z Y o A c G g))) rfl ?_
    refine (g_ok (f := 15) (by decide) rfl).trans ?_
    rfl
  refine pW_eq 1 (pc' := 26) (L' := [some (pm_r 15 0), some (pm_i v1), some (pm_i v2)]) (S' := [pm_i (((v1 - (nI 1)) - v2) - ((v1 - (nI 1)) - v2) / (nI 64) * (nI 64)), pm_r 15 0]) (M' := (mm x R Z Y o A c G g)) (fun call n => ?_) ?_
  · refine Eq.trans (b := if (nI 64) = 0 then none else pm_go call ns d 20 n 26 [some (pm_r 15 0), some (pm_i v1), some (pm_i v2)] [pm_i (((v1 - (nI 1)) - v2) - ((v1 - (nI 1)) - v2) / (nI 64) * (nI 64)), pm_r 15 0] (mm x R Z Y o A c G g)) rfl ?_
    refine (if_neg (by decide)).trans ?_
    rfl
  refine pW_eq 1 (pc' := 27) (L' := [some (pm_r 15 0), some (pm_i v1), some (pm_i v2)]) (S' := [pm_i (A 15 0 j1)]) (M' := (mm x R Z Y o A c G g)) (fun call n => ?_) ?_
  · refine Eq.trans (b := pm_g (mm x R Z Y o A c G g) 15 0 (pm_ix (((v1 - (nI 1)) - v2) - ((v1 - (nI 1)) - v2) / (nI 64) * (nI 64)) 64 (fun jx => pm_go call ns d 20 n 27 [some (pm_r 15 0), some (pm_i v1), some (pm_i v2)] [pm_i (A 15 0 jx)] (mm x R Z Y o A c G g)))) rfl ?_
    refine (g_ok (f := 15) (by decide) rfl).trans ?_
    refine (ix_ok (j := j1) e1 l1 (by decide)).trans ?_
    rfl
  refine pW_ret 1 (fun call n => ?_) k
  rfl
set_option maxRecDepth 20000 in
theorem t20_0 (hR : RS R) {i0 : Nat} {v1 : Int32} {v2 : Int32} (q0 : i0 < 8) (k1 : (v2 < 0) → Q (.inl (some (pm_i (-nI 1))), (mm x R Z Y o A c G g))) (k2 : (¬ (v2 < 0)) → (nI 16 ≤ v2) → Q (.inl (some (pm_i (-nI 1))), (mm x R Z Y o A c G g))) (k3 : (¬ (v2 < 0)) → (¬ (nI 16 ≤ v2)) → (v2 < v1) → pW ns d 20 17 [some (pm_r 12 i0), some (pm_i v1), some (pm_i v2)] [] (mm x R Z Y o A c G g) Q) (k4 : (¬ (v2 < 0)) → (¬ (nI 16 ≤ v2)) → (¬ (v2 < v1)) → Q (.inl (some (pm_i (-nI 1))), (mm x R Z Y o A c G g))) : pW ns d 20 0 [some (pm_r 12 i0), some (pm_i v1), some (pm_i v2)] [] (mm x R Z Y o A c G g) Q := by
  refine b20_0 hR q0 (fun h1 => ?_) (fun h1 => ?_)
  · skip
    exact b20_15 hR   (k1 h1)
  · skip
    refine b20_4 hR q0  (fun h2 => ?_) (fun h2 => ?_)
    · skip
      exact b20_15 hR   (k2 h1 h2)
    · skip
      refine b20_10 hR q0  (fun h3 => ?_) (fun h3 => ?_)
      · skip
        exact (k3 h1 h2 h3)
      · skip
        exact b20_15 hR   (k4 h1 h2 h3)
set_option maxRecDepth 20000 in
theorem t20_0a (hR : RS R) {v1 : Int32} {v2 : Int32}  (k1 : (v2 < 0) → Q (.inl (some (pm_i (-nI 1))), (mm x R Z Y o A c G g))) (k2 : (¬ (v2 < 0)) → (nI 64 ≤ v2) → Q (.inl (some (pm_i (-nI 1))), (mm x R Z Y o A c G g))) (k3 : (¬ (v2 < 0)) → (¬ (nI 64 ≤ v2)) → (v2 < v1) → pW ns d 20 17 [some (pm_r 15 0), some (pm_i v1), some (pm_i v2)] [] (mm x R Z Y o A c G g) Q) (k4 : (¬ (v2 < 0)) → (¬ (nI 64 ≤ v2)) → (¬ (v2 < v1)) → Q (.inl (some (pm_i (-nI 1))), (mm x R Z Y o A c G g))) : pW ns d 20 0 [some (pm_r 15 0), some (pm_i v1), some (pm_i v2)] [] (mm x R Z Y o A c G g) Q := by
  refine b20_0a hR  (fun h1 => ?_) (fun h1 => ?_)
  · skip
    exact b20_15 hR   (k1 h1)
  · skip
    refine b20_4a hR   (fun h2 => ?_) (fun h2 => ?_)
    · skip
      exact b20_15 hR   (k2 h1 h2)
    · skip
      refine b20_10a hR   (fun h3 => ?_) (fun h3 => ?_)
      · skip
        exact (k3 h1 h2 h3)
      · skip
        exact b20_15 hR   (k4 h1 h2 h3)
set_option maxRecDepth 20000 in
theorem t20_4 (hR : RS R) {i0 : Nat} {v1 : Int32} {v2 : Int32} (q0 : i0 < 8) (k1 : (nI 16 ≤ v2) → Q (.inl (some (pm_i (-nI 1))), (mm x R Z Y o A c G g))) (k2 : (¬ (nI 16 ≤ v2)) → (v2 < v1) → pW ns d 20 17 [some (pm_r 12 i0), some (pm_i v1), some (pm_i v2)] [] (mm x R Z Y o A c G g) Q) (k3 : (¬ (nI 16 ≤ v2)) → (¬ (v2 < v1)) → Q (.inl (some (pm_i (-nI 1))), (mm x R Z Y o A c G g))) : pW ns d 20 4 [some (pm_r 12 i0), some (pm_i v1), some (pm_i v2)] [] (mm x R Z Y o A c G g) Q := by
  refine b20_4 hR q0 (fun h1 => ?_) (fun h1 => ?_)
  · skip
    exact b20_15 hR   (k1 h1)
  · skip
    refine b20_10 hR q0  (fun h2 => ?_) (fun h2 => ?_)
    · skip
      exact (k2 h1 h2)
    · skip
      exact b20_15 hR   (k3 h1 h2)
set_option maxRecDepth 20000 in
theorem t20_4a (hR : RS R) {v1 : Int32} {v2 : Int32}  (k1 : (nI 64 ≤ v2) → Q (.inl (some (pm_i (-nI 1))), (mm x R Z Y o A c G g))) (k2 : (¬ (nI 64 ≤ v2)) → (v2 < v1) → pW ns d 20 17 [some (pm_r 15 0), some (pm_i v1), some (pm_i v2)] [] (mm x R Z Y o A c G g) Q) (k3 : (¬ (nI 64 ≤ v2)) → (¬ (v2 < v1)) → Q (.inl (some (pm_i (-nI 1))), (mm x R Z Y o A c G g))) : pW ns d 20 4 [some (pm_r 15 0), some (pm_i v1), some (pm_i v2)] [] (mm x R Z Y o A c G g) Q := by
  refine b20_4a hR  (fun h1 => ?_) (fun h1 => ?_)
  · skip
    exact b20_15 hR   (k1 h1)
  · skip
    refine b20_10a hR   (fun h2 => ?_) (fun h2 => ?_)
    · skip
      exact (k2 h1 h2)
    · skip
      exact b20_15 hR   (k3 h1 h2)
set_option maxRecDepth 20000 in
theorem t20_10 (hR : RS R) {i0 : Nat} {v1 : Int32} {v2 : Int32} (q0 : i0 < 8) (k1 : (v2 < v1) → pW ns d 20 17 [some (pm_r 12 i0), some (pm_i v1), some (pm_i v2)] [] (mm x R Z Y o A c G g) Q) (k2 : (¬ (v2 < v1)) → Q (.inl (some (pm_i (-nI 1))), (mm x R Z Y o A c G g))) : pW ns d 20 10 [some (pm_r 12 i0), some (pm_i v1), some (pm_i v2)] [] (mm x R Z Y o A c G g) Q := by
  refine b20_10 hR q0 (fun h1 => ?_) (fun h1 => ?_)
  · skip
    exact (k1 h1)
  · skip
    exact b20_15 hR   (k2 h1)
set_option maxRecDepth 20000 in
theorem t20_10a (hR : RS R) {v1 : Int32} {v2 : Int32}  (k1 : (v2 < v1) → pW ns d 20 17 [some (pm_r 15 0), some (pm_i v1), some (pm_i v2)] [] (mm x R Z Y o A c G g) Q) (k2 : (¬ (v2 < v1)) → Q (.inl (some (pm_i (-nI 1))), (mm x R Z Y o A c G g))) : pW ns d 20 10 [some (pm_r 15 0), some (pm_i v1), some (pm_i v2)] [] (mm x R Z Y o A c G g) Q := by
  refine b20_10a hR  (fun h1 => ?_) (fun h1 => ?_)
  · skip
    exact (k1 h1)
  · skip
    exact b20_15 hR   (k2 h1)
/-! 21 JobLayer.fileKind -/
set_option maxRecDepth 20000 in
theorem b21_0 (hR : RS R) {v0 : Int32}   (k1 : v0 = 0 → pW ns d 21 9 [some (pm_i v0)] [] (mm x R Z Y o A c G g) Q) (k2 : ¬ (v0 = 0) → pW ns d 21 4 [some (pm_i v0)] [] (mm x R Z Y o A c G g) Q) : pW ns d 21 0 [some (pm_i v0)] [] (mm x R Z Y o A c G g) Q := by
  exact pW_if 2 (c := v0 = 0) (fun call n => rfl) k1 k2
set_option maxRecDepth 20000 in
theorem b21_9 (hR : RS R) {v0 : Int32}   (k : Q (.inl (some (pm_i v0)), (mm x R Z Y o A c G g))) : pW ns d 21 9 [some (pm_i v0)] [] (mm x R Z Y o A c G g) Q := by
  refine pW_ret 2 (fun call n => ?_) k
  rfl
set_option maxRecDepth 20000 in
theorem b21_4 (hR : RS R) {v0 : Int32}   (k1 : v0 = nI 1 → pW ns d 21 9 [some (pm_i v0)] [] (mm x R Z Y o A c G g) Q) (k2 : ¬ (v0 = nI 1) → pW ns d 21 11 [some (pm_i v0)] [] (mm x R Z Y o A c G g) Q) : pW ns d 21 4 [some (pm_i v0)] [] (mm x R Z Y o A c G g) Q := by
  exact pW_if 3 (c := v0 = nI 1) (fun call n => rfl) k1 k2
set_option maxRecDepth 20000 in
theorem b21_11 (hR : RS R) {v0 : Int32}   (k : Q (.inl (some (pm_i ((nI 2) + (v0 - v0 / (nI 2) * (nI 2))))), (mm x R Z Y o A c G g))) : pW ns d 21 11 [some (pm_i v0)] [] (mm x R Z Y o A c G g) Q := by
  refine pW_eq 4 (pc' := 15) (L' := [some (pm_i v0)]) (S' := [pm_i (v0 - v0 / (nI 2) * (nI 2)), pm_i (nI 2)]) (M' := (mm x R Z Y o A c G g)) (fun call n => ?_) ?_
  · refine Eq.trans (b := if (nI 2) = 0 then none else pm_go call ns d 21 n 15 [some (pm_i v0)] [pm_i (v0 - v0 / (nI 2) * (nI 2)), pm_i (nI 2)] (mm x R Z Y o A c G g)) rfl ?_
    refine (if_neg (by decide)).trans ?_
    rfl
  refine pW_ret 2 (fun call n => ?_) k
  rfl
set_option maxRecDepth 20000 in
theorem t21_0 (hR : RS R) {v0 : Int32}  (k1 : (v0 = 0) → Q (.inl (some (pm_i v0)), (mm x R Z Y o A c G g))) (k2 : (¬ (v0 = 0)) → (v0 = nI 1) → Q (.inl (some (pm_i v0)), (mm x R Z Y o A c G g))) (k3 : (¬ (v0 = 0)) → (¬ (v0 = nI 1)) → Q (.inl (some (pm_i ((nI 2) + (v0 - v0 / (nI 2) * (nI 2))))), (mm x R Z Y o A c G g))) : pW ns d 21 0 [some (pm_i v0)] [] (mm x R Z Y o A c G g) Q := by
  refine b21_0 hR  (fun h1 => ?_) (fun h1 => ?_)
  · skip
    exact b21_9 hR   (k1 h1)
  · skip
    refine b21_4 hR   (fun h2 => ?_) (fun h2 => ?_)
    · skip
      exact b21_9 hR   (k2 h1 h2)
    · skip
      exact b21_11 hR   (k3 h1 h2)
set_option maxRecDepth 20000 in
theorem t21_4 (hR : RS R) {v0 : Int32}  (k1 : (v0 = nI 1) → Q (.inl (some (pm_i v0)), (mm x R Z Y o A c G g))) (k2 : (¬ (v0 = nI 1)) → Q (.inl (some (pm_i ((nI 2) + (v0 - v0 / (nI 2) * (nI 2))))), (mm x R Z Y o A c G g))) : pW ns d 21 4 [some (pm_i v0)] [] (mm x R Z Y o A c G g) Q := by
  refine b21_4 hR  (fun h1 => ?_) (fun h1 => ?_)
  · skip
    exact b21_9 hR   (k1 h1)
  · skip
    exact b21_11 hR   (k2 h1)
/-! 22 JobLayer.checkByteCount -/
set_option maxRecDepth 20000 in
theorem b22_0 (hR : RS R) {v0 : Int32}   (k1 : v0 < nI 1 → pW ns d 22 11 [some (pm_i v0)] [] (mm x R Z Y o A c G g) Q) (k2 : ¬ (v0 < nI 1) → pW ns d 22 5 [some (pm_i v0)] [] (mm x R Z Y o A c G g) Q) : pW ns d 22 0 [some (pm_i v0)] [] (mm x R Z Y o A c G g) Q := by
  exact pW_if 3 (c := v0 < nI 1) (fun call n => rfl) k1 k2
set_option maxRecDepth 20000 in
theorem b22_11 (hR : RS R) {u0 : Option pm_V}  (hd : 6 ≤ d) (hx : x < 600) (k : Q (.inr 1, (mm (x + 1) R Z Y o A c G g))) : pW ns d 22 11 [u0] [] (mm x R Z Y o A c G g) Q := by
  refine pW_ret 1 (fun call n => ?_) k
  exact Eq.trans (b := pm_th d 22 11 1 [] (mm x R Z Y o A c G g)) rfl (if_pos ⟨hd, rfl, rfl, hx, rfl, rfl, rfl, rfl⟩)
set_option maxRecDepth 20000 in
theorem b22_5 (hR : RS R) {v0 : Int32}   (k1 : v0 ≤ nI 8 → pW ns d 22 19 [some (pm_i v0)] [] (mm x R Z Y o A c G g) Q) (k2 : ¬ (v0 ≤ nI 8) → pW ns d 22 11 [some (pm_i v0)] [] (mm x R Z Y o A c G g) Q) : pW ns d 22 5 [some (pm_i v0)] [] (mm x R Z Y o A c G g) Q := by
  exact pW_if 3 (c := v0 ≤ nI 8) (fun call n => rfl) k1 k2
set_option maxRecDepth 20000 in
theorem b22_19 (hR : RS R) {u0 : Option pm_V}   (k : Q (.inl none, (mm x R Z Y o A c G g))) : pW ns d 22 19 [u0] [] (mm x R Z Y o A c G g) Q := by
  refine pW_ret 1 (fun call n => ?_) k
  rfl
set_option maxRecDepth 20000 in
theorem t22_0 (hR : RS R) {v0 : Int32}  (k1 : (v0 < nI 1) → pW ns d 22 11 [some (pm_i v0)] [] (mm x R Z Y o A c G g) Q) (k2 : (¬ (v0 < nI 1)) → (v0 ≤ nI 8) → Q (.inl none, (mm x R Z Y o A c G g))) (k3 : (¬ (v0 < nI 1)) → (¬ (v0 ≤ nI 8)) → pW ns d 22 11 [some (pm_i v0)] [] (mm x R Z Y o A c G g) Q) : pW ns d 22 0 [some (pm_i v0)] [] (mm x R Z Y o A c G g) Q := by
  refine b22_0 hR  (fun h1 => ?_) (fun h1 => ?_)
  · skip
    exact (k1 h1)
  · skip
    refine b22_5 hR   (fun h2 => ?_) (fun h2 => ?_)
    · skip
      exact b22_19 hR   (k2 h1 h2)
    · skip
      exact (k3 h1 h2)
set_option maxRecDepth 20000 in
theorem t22_5 (hR : RS R) {v0 : Int32}  (k1 : (v0 ≤ nI 8) → Q (.inl none, (mm x R Z Y o A c G g))) (k2 : (¬ (v0 ≤ nI 8)) → pW ns d 22 11 [some (pm_i v0)] [] (mm x R Z Y o A c G g) Q) : pW ns d 22 5 [some (pm_i v0)] [] (mm x R Z Y o A c G g) Q := by
  refine b22_5 hR  (fun h1 => ?_) (fun h1 => ?_)
  · skip
    exact b22_19 hR   (k1 h1)
  · skip
    exact (k2 h1)
/-! 23 JobLayer.readyTask -/
set_option maxRecDepth 20000 in
theorem b23_0 (hR : RS R) {v1 : Int32}  {x2 : Nat} {o2 : Int64} {A2 : Nat → Nat → Nat → Int32} {c2 : Nat → Int64} {G2 : Nat → Nat → Int32} {g2 : Nat → Int64} {y : Int32} (hE : pE ns d 24 [pm_r 0 0, pm_i v1] (mm x R Z Y o A c G g) (.inl (some (pm_i y)), (mm x2 R Z Y o2 A2 c2 G2 g2))) (k : pW ns d 23 5 [some (pm_r 0 0), some (pm_i v1)] [pm_i y] (mm x2 R Z Y o2 A2 c2 G2 g2) Q) : pW ns d 23 0 [some (pm_r 0 0), some (pm_i v1)] [] (mm x R Z Y o A c G g) Q := by
  refine pW_call (pc' := 2) (r := []) (L' := [some (pm_r 0 0), some (pm_i v1)]) 3 (fun call n => ?_) hE k
  exact Eq.trans (b := pm_g (mm x R Z Y o A c G g) 0 0 (pm_cl call 23 (pm_go call ns d 23 n) 2 24 [pm_r 0 0, pm_i v1] [] [some (pm_r 0 0), some (pm_i v1)] (mm x R Z Y o A c G g))) rfl (g_ok (f := 0) (by decide) rfl)
set_option maxRecDepth 20000 in
theorem b23_5 (hR : RS R) {v1 : Int32} {vs0 : Int32}   (k1 : vs0 = 0 → pW ns d 23 21 [some (pm_r 0 0), some (pm_i v1)] [] (mm x R Z Y o A c G g) Q) (k2 : ¬ (vs0 = 0) → pW ns d 23 8 [some (pm_r 0 0), some (pm_i v1)] [] (mm x R Z Y o A c G g) Q) : pW ns d 23 5 [some (pm_r 0 0), some (pm_i v1)] [pm_i vs0] (mm x R Z Y o A c G g) Q := by
  exact pW_if 1 (c := vs0 = 0) (fun call n => rfl) k1 k2
set_option maxRecDepth 20000 in
theorem b23_21 (hR : RS R) {u0 : Option pm_V} {u1 : Option pm_V}  (hd : 6 ≤ d) (hx : x < 600) (k : Q (.inr 0, (mm (x + 1) R Z Y o A c G g))) : pW ns d 23 21 [u0, u1] [] (mm x R Z Y o A c G g) Q := by
  refine pW_ret 1 (fun call n => ?_) k
  exact Eq.trans (b := pm_th d 23 21 0 [] (mm x R Z Y o A c G g)) rfl (if_pos ⟨hd, rfl, rfl, hx, rfl, rfl, rfl, rfl⟩)
set_option maxRecDepth 20000 in
theorem b23_8 (hR : RS R) {v1 : Int32} {j1 : Nat} (e1 : v1 = nI j1) (l1 : j1 < 8)  (k1 : A 8 j1 6 = nI 1 → pW ns d 23 29 [some (pm_r 0 0), some (pm_i v1)] [] (mm x R Z Y o A c G g) Q) (k2 : ¬ (A 8 j1 6 = nI 1) → pW ns d 23 21 [some (pm_r 0 0), some (pm_i v1)] [] (mm x R Z Y o A c G g) Q) : pW ns d 23 8 [some (pm_r 0 0), some (pm_i v1)] [] (mm x R Z Y o A c G g) Q := by
  refine pW_eq 2 (pc' := 12) (L' := [some (pm_r 0 0), some (pm_i v1)]) (S' := [pm_r 1 0]) (M' := (mm x R Z Y o A c G g)) (fun call n => ?_) ?_
  · refine Eq.trans (b := pm_g (mm x R Z Y o A c G g) 0 0 (pm_go call ns d 23 n 12 [some (pm_r 0 0), some (pm_i v1)] [pm_a (R 0 0 0)] (mm x R Z Y o A c G g))) rfl ?_
    refine (g_ok (f := 0) (by decide) rfl).trans ?_
    exact (congrArg (fun z => pm_go call ns d 23 n 12 [some (pm_r 0 0), some (pm_i v1)] [pm_a z] (mm x R Z Y o A c G g)) (rs_0_0 hR))
  refine pW_eq 2 (pc' := 14) (L' := [some (pm_r 0 0), some (pm_i v1)]) (S' := [pm_r 8 j1]) (M' := (mm x R Z Y o A c G g)) (fun call n => ?_) ?_
  · refine Eq.trans (b := pm_g (mm x R Z Y o A c G g) 1 0 (pm_ix (v1) 8 (fun jx => pm_go call ns d 23 n 14 [some (pm_r 0 0), some (pm_i v1)] [pm_a (R 1 0 jx)] (mm x R Z Y o A c G g)))) rfl ?_
    refine (g_ok (f := 1) (by decide) rfl).trans ?_
    refine (ix_ok (j := j1) e1 l1 (by decide)).trans ?_
    exact (congrArg (fun z => pm_go call ns d 23 n 14 [some (pm_r 0 0), some (pm_i v1)] [pm_a z] (mm x R Z Y o A c G g)) (rs_1 hR (k := j1) l1))
  refine pW_eq 1 (pc' := 17) (L' := [some (pm_r 0 0), some (pm_i v1)]) (S' := [pm_i (A 8 j1 6)]) (M' := (mm x R Z Y o A c G g)) (fun call n => ?_) ?_
  · refine Eq.trans (b := pm_g (mm x R Z Y o A c G g) 8 j1 (pm_go call ns d 23 n 17 [some (pm_r 0 0), some (pm_i v1)] [pm_i (A 8 j1 6)] (mm x R Z Y o A c G g))) rfl ?_
    refine (g_ok (f := 8) l1 rfl).trans ?_
    rfl
  exact pW_if 2 (c := A 8 j1 6 = nI 1) (fun call n => rfl) k1 k2
set_option maxRecDepth 20000 in
theorem b23_29 (hR : RS R) {v1 : Int32} {j1 : Nat} (e1 : v1 = nI j1) (l1 : j1 < 8)  (k : Q (.inl (some (pm_r 8 j1)), (mm x R Z Y o A c G g))) : pW ns d 23 29 [some (pm_r 0 0), some (pm_i v1)] [] (mm x R Z Y o A c G g) Q := by
  refine pW_eq 2 (pc' := 33) (L' := [some (pm_r 0 0), some (pm_i v1)]) (S' := [pm_r 1 0]) (M' := (mm x R Z Y o A c G g)) (fun call n => ?_) ?_
  · refine Eq.trans (b := pm_g (mm x R Z Y o A c G g) 0 0 (pm_go call ns d 23 n 33 [some (pm_r 0 0), some (pm_i v1)] [pm_a (R 0 0 0)] (mm x R Z Y o A c G g))) rfl ?_
    refine (g_ok (f := 0) (by decide) rfl).trans ?_
    exact (congrArg (fun z => pm_go call ns d 23 n 33 [some (pm_r 0 0), some (pm_i v1)] [pm_a z] (mm x R Z Y o A c G g)) (rs_0_0 hR))
  refine pW_eq 2 (pc' := 35) (L' := [some (pm_r 0 0), some (pm_i v1)]) (S' := [pm_r 8 j1]) (M' := (mm x R Z Y o A c G g)) (fun call n => ?_) ?_
  · refine Eq.trans (b := pm_g (mm x R Z Y o A c G g) 1 0 (pm_ix (v1) 8 (fun jx => pm_go call ns d 23 n 35 [some (pm_r 0 0), some (pm_i v1)] [pm_a (R 1 0 jx)] (mm x R Z Y o A c G g)))) rfl ?_
    refine (g_ok (f := 1) (by decide) rfl).trans ?_
    refine (ix_ok (j := j1) e1 l1 (by decide)).trans ?_
    exact (congrArg (fun z => pm_go call ns d 23 n 35 [some (pm_r 0 0), some (pm_i v1)] [pm_a z] (mm x R Z Y o A c G g)) (rs_1 hR (k := j1) l1))
  refine pW_ret 1 (fun call n => ?_) k
  rfl
set_option maxRecDepth 20000 in
theorem t23_5 (hR : RS R) {v1 : Int32} {vs0 : Int32}  (k1 : (vs0 = 0) → pW ns d 23 21 [some (pm_r 0 0), some (pm_i v1)] [] (mm x R Z Y o A c G g) Q) (k2 : (¬ (vs0 = 0)) → pW ns d 23 8 [some (pm_r 0 0), some (pm_i v1)] [] (mm x R Z Y o A c G g) Q) : pW ns d 23 5 [some (pm_r 0 0), some (pm_i v1)] [pm_i vs0] (mm x R Z Y o A c G g) Q := by
  refine b23_5 hR  (fun h1 => ?_) (fun h1 => ?_)
  · skip
    exact (k1 h1)
  · skip
    exact (k2 h1)
set_option maxRecDepth 20000 in
theorem t23_8 (hR : RS R) {v1 : Int32} {j1 : Nat} (e1 : v1 = nI j1) (l1 : j1 < 8) (k1 : (A 8 j1 6 = nI 1) → Q (.inl (some (pm_r 8 j1)), (mm x R Z Y o A c G g))) (k2 : (¬ (A 8 j1 6 = nI 1)) → pW ns d 23 21 [some (pm_r 0 0), some (pm_i v1)] [] (mm x R Z Y o A c G g) Q) : pW ns d 23 8 [some (pm_r 0 0), some (pm_i v1)] [] (mm x R Z Y o A c G g) Q := by
  refine b23_8 hR e1 l1 (fun h1 => ?_) (fun h1 => ?_)
  · skip
    exact b23_29 hR  e1 l1 (k1 h1)
  · skip
    exact (k2 h1)
/-! 24 JobLayer.isTask -/
set_option maxRecDepth 20000 in
theorem b24_0 (hR : RS R) {v1 : Int32}   (k1 : v1 < 0 → pW ns d 24 26 [some (pm_r 0 0), some (pm_i v1)] [] (mm x R Z Y o A c G g) Q) (k2 : ¬ (v1 < 0) → pW ns d 24 4 [some (pm_r 0 0), some (pm_i v1)] [] (mm x R Z Y o A c G g) Q) : pW ns d 24 0 [some (pm_r 0 0), some (pm_i v1)] [] (mm x R Z Y o A c G g) Q := by
  exact pW_if 2 (c := v1 < 0) (fun call n => rfl) k1 k2
set_option maxRecDepth 20000 in
theorem b24_26 (hR : RS R) {u0 : Option pm_V} {u1 : Option pm_V}   (k : Q (.inl (some (pm_i (nI 0))), (mm x R Z Y o A c G g))) : pW ns d 24 26 [u0, u1] [] (mm x R Z Y o A c G g) Q := by
  refine pW_ret 2 (fun call n => ?_) k
  exact Eq.trans (b := pm_bo (nI 0) (some (.inl (some (pm_i (nI 0))), (mm x R Z Y o A c G g)))) rfl (bo_ok (by decide))
set_option maxRecDepth 20000 in
theorem b24_4 (hR : RS R) {v1 : Int32}   (k1 : nI 8 ≤ v1 → pW ns d 24 26 [some (pm_r 0 0), some (pm_i v1)] [] (mm x R Z Y o A c G g) Q) (k2 : ¬ (nI 8 ≤ v1) → pW ns d 24 10 [some (pm_r 0 0), some (pm_i v1)] [] (mm x R Z Y o A c G g) Q) : pW ns d 24 4 [some (pm_r 0 0), some (pm_i v1)] [] (mm x R Z Y o A c G g) Q := by
  exact pW_if 3 (c := nI 8 ≤ v1) (fun call n => rfl) k1 k2
set_option maxRecDepth 20000 in
theorem b24_10 (hR : RS R) {v1 : Int32} {j1 : Nat} (e1 : v1 = nI j1) (l1 : j1 < 8)  (k1 : A 8 j1 6 = 0 → pW ns d 24 26 [some (pm_r 0 0), some (pm_i v1)] [] (mm x R Z Y o A c G g) Q) (k2 : ¬ (A 8 j1 6 = 0) → pW ns d 24 22 [some (pm_r 0 0), some (pm_i v1)] [] (mm x R Z Y o A c G g) Q) : pW ns d 24 10 [some (pm_r 0 0), some (pm_i v1)] [] (mm x R Z Y o A c G g) Q := by
  refine pW_eq 2 (pc' := 14) (L' := [some (pm_r 0 0), some (pm_i v1)]) (S' := [pm_r 1 0]) (M' := (mm x R Z Y o A c G g)) (fun call n => ?_) ?_
  · refine Eq.trans (b := pm_g (mm x R Z Y o A c G g) 0 0 (pm_go call ns d 24 n 14 [some (pm_r 0 0), some (pm_i v1)] [pm_a (R 0 0 0)] (mm x R Z Y o A c G g))) rfl ?_
    refine (g_ok (f := 0) (by decide) rfl).trans ?_
    exact (congrArg (fun z => pm_go call ns d 24 n 14 [some (pm_r 0 0), some (pm_i v1)] [pm_a z] (mm x R Z Y o A c G g)) (rs_0_0 hR))
  refine pW_eq 2 (pc' := 16) (L' := [some (pm_r 0 0), some (pm_i v1)]) (S' := [pm_r 8 j1]) (M' := (mm x R Z Y o A c G g)) (fun call n => ?_) ?_
  · refine Eq.trans (b := pm_g (mm x R Z Y o A c G g) 1 0 (pm_ix (v1) 8 (fun jx => pm_go call ns d 24 n 16 [some (pm_r 0 0), some (pm_i v1)] [pm_a (R 1 0 jx)] (mm x R Z Y o A c G g)))) rfl ?_
    refine (g_ok (f := 1) (by decide) rfl).trans ?_
    refine (ix_ok (j := j1) e1 l1 (by decide)).trans ?_
    exact (congrArg (fun z => pm_go call ns d 24 n 16 [some (pm_r 0 0), some (pm_i v1)] [pm_a z] (mm x R Z Y o A c G g)) (rs_1 hR (k := j1) l1))
  refine pW_eq 1 (pc' := 19) (L' := [some (pm_r 0 0), some (pm_i v1)]) (S' := [pm_i (A 8 j1 6)]) (M' := (mm x R Z Y o A c G g)) (fun call n => ?_) ?_
  · refine Eq.trans (b := pm_g (mm x R Z Y o A c G g) 8 j1 (pm_go call ns d 24 n 19 [some (pm_r 0 0), some (pm_i v1)] [pm_i (A 8 j1 6)] (mm x R Z Y o A c G g))) rfl ?_
    refine (g_ok (f := 8) l1 rfl).trans ?_
    rfl
  exact pW_if 1 (c := A 8 j1 6 = 0) (fun call n => rfl) k1 k2
set_option maxRecDepth 20000 in
theorem b24_22 (hR : RS R) {u0 : Option pm_V} {u1 : Option pm_V}   (k : Q (.inl (some (pm_i (nI 1))), (mm x R Z Y o A c G g))) : pW ns d 24 22 [u0, u1] [] (mm x R Z Y o A c G g) Q := by
  refine pW_ret 3 (fun call n => ?_) k
  exact Eq.trans (b := pm_bo (nI 1) (some (.inl (some (pm_i (nI 1))), (mm x R Z Y o A c G g)))) rfl (bo_ok (by decide))
set_option maxRecDepth 20000 in
theorem t24_0 (hR : RS R) {v1 : Int32}  (k1 : (v1 < 0) → Q (.inl (some (pm_i (nI 0))), (mm x R Z Y o A c G g))) (k2 : (¬ (v1 < 0)) → (nI 8 ≤ v1) → Q (.inl (some (pm_i (nI 0))), (mm x R Z Y o A c G g))) (k3 : (¬ (v1 < 0)) → (¬ (nI 8 ≤ v1)) → pW ns d 24 10 [some (pm_r 0 0), some (pm_i v1)] [] (mm x R Z Y o A c G g) Q) : pW ns d 24 0 [some (pm_r 0 0), some (pm_i v1)] [] (mm x R Z Y o A c G g) Q := by
  refine b24_0 hR  (fun h1 => ?_) (fun h1 => ?_)
  · skip
    exact b24_26 hR   (k1 h1)
  · skip
    refine b24_4 hR   (fun h2 => ?_) (fun h2 => ?_)
    · skip
      exact b24_26 hR   (k2 h1 h2)
    · skip
      exact (k3 h1 h2)
set_option maxRecDepth 20000 in
theorem t24_4 (hR : RS R) {v1 : Int32}  (k1 : (nI 8 ≤ v1) → Q (.inl (some (pm_i (nI 0))), (mm x R Z Y o A c G g))) (k2 : (¬ (nI 8 ≤ v1)) → pW ns d 24 10 [some (pm_r 0 0), some (pm_i v1)] [] (mm x R Z Y o A c G g) Q) : pW ns d 24 4 [some (pm_r 0 0), some (pm_i v1)] [] (mm x R Z Y o A c G g) Q := by
  refine b24_4 hR  (fun h1 => ?_) (fun h1 => ?_)
  · skip
    exact b24_26 hR   (k1 h1)
  · skip
    exact (k2 h1)
set_option maxRecDepth 20000 in
theorem t24_10 (hR : RS R) {v1 : Int32} {j1 : Nat} (e1 : v1 = nI j1) (l1 : j1 < 8) (k1 : (A 8 j1 6 = 0) → Q (.inl (some (pm_i (nI 0))), (mm x R Z Y o A c G g))) (k2 : (¬ (A 8 j1 6 = 0)) → Q (.inl (some (pm_i (nI 1))), (mm x R Z Y o A c G g))) : pW ns d 24 10 [some (pm_r 0 0), some (pm_i v1)] [] (mm x R Z Y o A c G g) Q := by
  refine b24_10 hR e1 l1 (fun h1 => ?_) (fun h1 => ?_)
  · skip
    exact b24_26 hR   (k1 h1)
  · skip
    exact b24_22 hR   (k2 h1)
/-! 25 JobLayer.parentOf -/
set_option maxRecDepth 20000 in
theorem b25_0 (hR : RS R) {i1 : Nat} (q1 : i1 < 8)  (k1 : A 8 i1 7 < 0 → pW ns d 25 28 [some (pm_r 0 0), some (pm_r 8 i1)] [] (mm x R Z Y o A c G g) Q) (k2 : ¬ (A 8 i1 7 < 0) → pW ns d 25 7 [some (pm_r 0 0), some (pm_r 8 i1)] [] (mm x R Z Y o A c G g) Q) : pW ns d 25 0 [some (pm_r 0 0), some (pm_r 8 i1)] [] (mm x R Z Y o A c G g) Q := by
  refine pW_eq 2 (pc' := 4) (L' := [some (pm_r 0 0), some (pm_r 8 i1)]) (S' := [pm_i (A 8 i1 7)]) (M' := (mm x R Z Y o A c G g)) (fun call n => ?_) ?_
  · refine Eq.trans (b := pm_g (mm x R Z Y o A c G g) 8 i1 (pm_go call ns d 25 n 4 [some (pm_r 0 0), some (pm_r 8 i1)] [pm_i (A 8 i1 7)] (mm x R Z Y o A c G g))) rfl ?_
    refine (g_ok (f := 8) q1 rfl).trans ?_
    rfl
  exact pW_if 1 (c := A 8 i1 7 < 0) (fun call n => rfl) k1 k2
set_option maxRecDepth 20000 in
theorem b25_28 (hR : RS R) {u0 : Option pm_V} {u1 : Option pm_V}   (k : Q (.inl (some (pm_a none)), (mm x R Z Y o A c G g))) : pW ns d 25 28 [u0, u1] [] (mm x R Z Y o A c G g) Q := by
  refine pW_ret 2 (fun call n => ?_) k
  rfl
set_option maxRecDepth 20000 in
theorem b25_7 (hR : RS R) {i1 : Nat} (q1 : i1 < 8)  (k1 : nI 8 ≤ A 8 i1 7 → pW ns d 25 28 [some (pm_r 0 0), some (pm_r 8 i1)] [] (mm x R Z Y o A c G g) Q) (k2 : ¬ (nI 8 ≤ A 8 i1 7) → pW ns d 25 16 [some (pm_r 0 0), some (pm_r 8 i1)] [] (mm x R Z Y o A c G g) Q) : pW ns d 25 7 [some (pm_r 0 0), some (pm_r 8 i1)] [] (mm x R Z Y o A c G g) Q := by
  refine pW_eq 2 (pc' := 11) (L' := [some (pm_r 0 0), some (pm_r 8 i1)]) (S' := [pm_i (A 8 i1 7)]) (M' := (mm x R Z Y o A c G g)) (fun call n => ?_) ?_
  · refine Eq.trans (b := pm_g (mm x R Z Y o A c G g) 8 i1 (pm_go call ns d 25 n 11 [some (pm_r 0 0), some (pm_r 8 i1)] [pm_i (A 8 i1 7)] (mm x R Z Y o A c G g))) rfl ?_
    refine (g_ok (f := 8) q1 rfl).trans ?_
    rfl
  exact pW_if 2 (c := nI 8 ≤ A 8 i1 7) (fun call n => rfl) k1 k2
set_option maxRecDepth 20000 in
theorem b25_16 (hR : RS R) {i1 : Nat} {j1 : Nat} (q1 : i1 < 8) (e1 : A 8 i1 7 = nI j1) (l1 : j1 < 8)  (k : Q (.inl (some (pm_r 8 j1)), (mm x R Z Y o A c G g))) : pW ns d 25 16 [some (pm_r 0 0), some (pm_r 8 i1)] [] (mm x R Z Y o A c G g) Q := by
  refine pW_eq 2 (pc' := 20) (L' := [some (pm_r 0 0), some (pm_r 8 i1)]) (S' := [pm_r 1 0]) (M' := (mm x R Z Y o A c G g)) (fun call n => ?_) ?_
  · refine Eq.trans (b := pm_g (mm x R Z Y o A c G g) 0 0 (pm_go call ns d 25 n 20 [some (pm_r 0 0), some (pm_r 8 i1)] [pm_a (R 0 0 0)] (mm x R Z Y o A c G g))) rfl ?_
    refine (g_ok (f := 0) (by decide) rfl).trans ?_
    exact (congrArg (fun z => pm_go call ns d 25 n 20 [some (pm_r 0 0), some (pm_r 8 i1)] [pm_a z] (mm x R Z Y o A c G g)) (rs_0_0 hR))
  refine pW_eq 2 (pc' := 24) (L' := [some (pm_r 0 0), some (pm_r 8 i1)]) (S' := [pm_i (A 8 i1 7), pm_r 1 0]) (M' := (mm x R Z Y o A c G g)) (fun call n => ?_) ?_
  · refine Eq.trans (b := pm_g (mm x R Z Y o A c G g) 8 i1 (pm_go call ns d 25 n 24 [some (pm_r 0 0), some (pm_r 8 i1)] [pm_i (A 8 i1 7), pm_r 1 0] (mm x R Z Y o A c G g))) rfl ?_
    refine (g_ok (f := 8) q1 rfl).trans ?_
    rfl
  refine pW_eq 1 (pc' := 25) (L' := [some (pm_r 0 0), some (pm_r 8 i1)]) (S' := [pm_r 8 j1]) (M' := (mm x R Z Y o A c G g)) (fun call n => ?_) ?_
  · refine Eq.trans (b := pm_g (mm x R Z Y o A c G g) 1 0 (pm_ix (A 8 i1 7) 8 (fun jx => pm_go call ns d 25 n 25 [some (pm_r 0 0), some (pm_r 8 i1)] [pm_a (R 1 0 jx)] (mm x R Z Y o A c G g)))) rfl ?_
    refine (g_ok (f := 1) (by decide) rfl).trans ?_
    refine (ix_ok (j := j1) e1 l1 (by decide)).trans ?_
    exact (congrArg (fun z => pm_go call ns d 25 n 25 [some (pm_r 0 0), some (pm_r 8 i1)] [pm_a z] (mm x R Z Y o A c G g)) (rs_1 hR (k := j1) l1))
  refine pW_ret 2 (fun call n => ?_) k
  rfl
set_option maxRecDepth 20000 in
theorem t25_0 (hR : RS R) {i1 : Nat} (q1 : i1 < 8) (k1 : (A 8 i1 7 < 0) → Q (.inl (some (pm_a none)), (mm x R Z Y o A c G g))) (k2 : (¬ (A 8 i1 7 < 0)) → (nI 8 ≤ A 8 i1 7) → Q (.inl (some (pm_a none)), (mm x R Z Y o A c G g))) (k3 : (¬ (A 8 i1 7 < 0)) → (¬ (nI 8 ≤ A 8 i1 7)) → pW ns d 25 16 [some (pm_r 0 0), some (pm_r 8 i1)] [] (mm x R Z Y o A c G g) Q) : pW ns d 25 0 [some (pm_r 0 0), some (pm_r 8 i1)] [] (mm x R Z Y o A c G g) Q := by
  refine b25_0 hR q1 (fun h1 => ?_) (fun h1 => ?_)
  · skip
    exact b25_28 hR   (k1 h1)
  · skip
    refine b25_7 hR q1  (fun h2 => ?_) (fun h2 => ?_)
    · skip
      exact b25_28 hR   (k2 h1 h2)
    · skip
      exact (k3 h1 h2)
set_option maxRecDepth 20000 in
theorem t25_7 (hR : RS R) {i1 : Nat} (q1 : i1 < 8) (k1 : (nI 8 ≤ A 8 i1 7) → Q (.inl (some (pm_a none)), (mm x R Z Y o A c G g))) (k2 : (¬ (nI 8 ≤ A 8 i1 7)) → pW ns d 25 16 [some (pm_r 0 0), some (pm_r 8 i1)] [] (mm x R Z Y o A c G g) Q) : pW ns d 25 7 [some (pm_r 0 0), some (pm_r 8 i1)] [] (mm x R Z Y o A c G g) Q := by
  refine b25_7 hR q1 (fun h1 => ?_) (fun h1 => ?_)
  · skip
    exact b25_28 hR   (k1 h1)
  · skip
    exact (k2 h1)
/-! 26 JobLayer.isGroupAlive -/
set_option maxRecDepth 20000 in
theorem b26_0 (hR : RS R) {v1 : Int32} {u2 : Option pm_V}   (k : pW ns d 26 2 [some (pm_r 0 0), some (pm_i v1), some (pm_i (nI 0))] [] (mm x R Z Y o A c G g) Q) : pW ns d 26 0 [some (pm_r 0 0), some (pm_i v1), u2] [] (mm x R Z Y o A c G g) Q := by
  exact pW_eq 2 (fun call n => rfl) k
set_option maxRecDepth 20000 in
theorem b26_2 (hR : RS R) {v1 : Int32} {v2 : Int32}   (k1 : nI 8 ≤ v2 → pW ns d 26 41 [some (pm_r 0 0), some (pm_i v1), some (pm_i v2)] [] (mm x R Z Y o A c G g) Q) (k2 : ¬ (nI 8 ≤ v2) → pW ns d 26 8 [some (pm_r 0 0), some (pm_i v1), some (pm_i v2)] [] (mm x R Z Y o A c G g) Q) : pW ns d 26 2 [some (pm_r 0 0), some (pm_i v1), some (pm_i v2)] [] (mm x R Z Y o A c G g) Q := by
  exact pW_if 3 (c := nI 8 ≤ v2) (fun call n => rfl) k1 k2
set_option maxRecDepth 20000 in
theorem b26_41 (hR : RS R) {u0 : Option pm_V} {u1 : Option pm_V} {u2 : Option pm_V}   (k : Q (.inl (some (pm_i (nI 0))), (mm x R Z Y o A c G g))) : pW ns d 26 41 [u0, u1, u2] [] (mm x R Z Y o A c G g) Q := by
  refine pW_ret 2 (fun call n => ?_) k
  exact Eq.trans (b := pm_bo (nI 0) (some (.inl (some (pm_i (nI 0))), (mm x R Z Y o A c G g)))) rfl (bo_ok (by decide))
set_option maxRecDepth 20000 in
theorem b26_8 (hR : RS R) {v1 : Int32} {v2 : Int32} {j1 : Nat} (e1 : v2 = nI j1) (l1 : j1 < 8) {x2 : Nat} {o2 : Int64} {A2 : Nat → Nat → Nat → Int32} {c2 : Nat → Int64} {G2 : Nat → Nat → Int32} {g2 : Nat → Int64} {y : Int32} (hE : pE ns d 112 [pm_r 8 j1] (mm x R Z Y o A c G g) (.inl (some (pm_i y)), (mm x2 R Z Y o2 A2 c2 G2 g2))) (k : pW ns d 26 17 [some (pm_r 0 0), some (pm_i v1), some (pm_i v2)] [pm_i y] (mm x2 R Z Y o2 A2 c2 G2 g2) Q) : pW ns d 26 8 [some (pm_r 0 0), some (pm_i v1), some (pm_i v2)] [] (mm x R Z Y o A c G g) Q := by
  refine pW_eq 2 (pc' := 12) (L' := [some (pm_r 0 0), some (pm_i v1), some (pm_i v2)]) (S' := [pm_r 1 0]) (M' := (mm x R Z Y o A c G g)) (fun call n => ?_) ?_
  · refine Eq.trans (b := pm_g (mm x R Z Y o A c G g) 0 0 (pm_go call ns d 26 n 12 [some (pm_r 0 0), some (pm_i v1), some (pm_i v2)] [pm_a (R 0 0 0)] (mm x R Z Y o A c G g))) rfl ?_
    refine (g_ok (f := 0) (by decide) rfl).trans ?_
    exact (congrArg (fun z => pm_go call ns d 26 n 12 [some (pm_r 0 0), some (pm_i v1), some (pm_i v2)] [pm_a z] (mm x R Z Y o A c G g)) (rs_0_0 hR))
  refine pW_eq 2 (pc' := 14) (L' := [some (pm_r 0 0), some (pm_i v1), some (pm_i v2)]) (S' := [pm_r 8 j1]) (M' := (mm x R Z Y o A c G g)) (fun call n => ?_) ?_
  · refine Eq.trans (b := pm_g (mm x R Z Y o A c G g) 1 0 (pm_ix (v2) 8 (fun jx => pm_go call ns d 26 n 14 [some (pm_r 0 0), some (pm_i v1), some (pm_i v2)] [pm_a (R 1 0 jx)] (mm x R Z Y o A c G g)))) rfl ?_
    refine (g_ok (f := 1) (by decide) rfl).trans ?_
    refine (ix_ok (j := j1) e1 l1 (by decide)).trans ?_
    exact (congrArg (fun z => pm_go call ns d 26 n 14 [some (pm_r 0 0), some (pm_i v1), some (pm_i v2)] [pm_a z] (mm x R Z Y o A c G g)) (rs_1 hR (k := j1) l1))
  refine pW_call (pc' := 14) (r := []) (L' := [some (pm_r 0 0), some (pm_i v1), some (pm_i v2)]) 1 (fun call n => ?_) hE k
  exact Eq.trans (b := pm_g (mm x R Z Y o A c G g) 8 j1 (pm_cl call 26 (pm_go call ns d 26 n) 14 112 [pm_r 8 j1] [] [some (pm_r 0 0), some (pm_i v1), some (pm_i v2)] (mm x R Z Y o A c G g))) rfl (g_ok (f := 8) l1 rfl)
set_option maxRecDepth 20000 in
theorem b26_17 (hR : RS R) {v1 : Int32} {v2 : Int32} {vs0 : Int32}   (k1 : vs0 = 0 → pW ns d 26 35 [some (pm_r 0 0), some (pm_i v1), some (pm_i v2)] [] (mm x R Z Y o A c G g) Q) (k2 : ¬ (vs0 = 0) → pW ns d 26 20 [some (pm_r 0 0), some (pm_i v1), some (pm_i v2)] [] (mm x R Z Y o A c G g) Q) : pW ns d 26 17 [some (pm_r 0 0), some (pm_i v1), some (pm_i v2)] [pm_i vs0] (mm x R Z Y o A c G g) Q := by
  exact pW_if 1 (c := vs0 = 0) (fun call n => rfl) k1 k2
set_option maxRecDepth 20000 in
theorem b26_35 (hR : RS R) {v1 : Int32} {v2 : Int32}   (k : pW ns d 26 2 [some (pm_r 0 0), some (pm_i v1), some (pm_i (v2 + (nI 1)))] [] (mm x R Z Y o A c G g) Q) : pW ns d 26 35 [some (pm_r 0 0), some (pm_i v1), some (pm_i v2)] [] (mm x R Z Y o A c G g) Q := by
  exact pW_eq 2 (fun call n => rfl) k
set_option maxRecDepth 20000 in
theorem b26_20 (hR : RS R) {v1 : Int32} {v2 : Int32} {j1 : Nat} (e1 : v2 = nI j1) (l1 : j1 < 8)  (k1 : A 8 j1 8 = v1 → pW ns d 26 33 [some (pm_r 0 0), some (pm_i v1), some (pm_i v2)] [] (mm x R Z Y o A c G g) Q) (k2 : ¬ (A 8 j1 8 = v1) → pW ns d 26 35 [some (pm_r 0 0), some (pm_i v1), some (pm_i v2)] [] (mm x R Z Y o A c G g) Q) : pW ns d 26 20 [some (pm_r 0 0), some (pm_i v1), some (pm_i v2)] [] (mm x R Z Y o A c G g) Q := by
  refine pW_eq 2 (pc' := 24) (L' := [some (pm_r 0 0), some (pm_i v1), some (pm_i v2)]) (S' := [pm_r 1 0]) (M' := (mm x R Z Y o A c G g)) (fun call n => ?_) ?_
  · refine Eq.trans (b := pm_g (mm x R Z Y o A c G g) 0 0 (pm_go call ns d 26 n 24 [some (pm_r 0 0), some (pm_i v1), some (pm_i v2)] [pm_a (R 0 0 0)] (mm x R Z Y o A c G g))) rfl ?_
    refine (g_ok (f := 0) (by decide) rfl).trans ?_
    exact (congrArg (fun z => pm_go call ns d 26 n 24 [some (pm_r 0 0), some (pm_i v1), some (pm_i v2)] [pm_a z] (mm x R Z Y o A c G g)) (rs_0_0 hR))
  refine pW_eq 2 (pc' := 26) (L' := [some (pm_r 0 0), some (pm_i v1), some (pm_i v2)]) (S' := [pm_r 8 j1]) (M' := (mm x R Z Y o A c G g)) (fun call n => ?_) ?_
  · refine Eq.trans (b := pm_g (mm x R Z Y o A c G g) 1 0 (pm_ix (v2) 8 (fun jx => pm_go call ns d 26 n 26 [some (pm_r 0 0), some (pm_i v1), some (pm_i v2)] [pm_a (R 1 0 jx)] (mm x R Z Y o A c G g)))) rfl ?_
    refine (g_ok (f := 1) (by decide) rfl).trans ?_
    refine (ix_ok (j := j1) e1 l1 (by decide)).trans ?_
    exact (congrArg (fun z => pm_go call ns d 26 n 26 [some (pm_r 0 0), some (pm_i v1), some (pm_i v2)] [pm_a z] (mm x R Z Y o A c G g)) (rs_1 hR (k := j1) l1))
  refine pW_eq 1 (pc' := 29) (L' := [some (pm_r 0 0), some (pm_i v1), some (pm_i v2)]) (S' := [pm_i (A 8 j1 8)]) (M' := (mm x R Z Y o A c G g)) (fun call n => ?_) ?_
  · refine Eq.trans (b := pm_g (mm x R Z Y o A c G g) 8 j1 (pm_go call ns d 26 n 29 [some (pm_r 0 0), some (pm_i v1), some (pm_i v2)] [pm_i (A 8 j1 8)] (mm x R Z Y o A c G g))) rfl ?_
    refine (g_ok (f := 8) l1 rfl).trans ?_
    rfl
  exact pW_if 2 (c := A 8 j1 8 = v1) (fun call n => rfl) k1 k2
set_option maxRecDepth 20000 in
theorem b26_33 (hR : RS R) {u0 : Option pm_V} {u1 : Option pm_V} {u2 : Option pm_V}   (k : Q (.inl (some (pm_i (nI 1))), (mm x R Z Y o A c G g))) : pW ns d 26 33 [u0, u1, u2] [] (mm x R Z Y o A c G g) Q := by
  refine pW_ret 2 (fun call n => ?_) k
  exact Eq.trans (b := pm_bo (nI 1) (some (.inl (some (pm_i (nI 1))), (mm x R Z Y o A c G g)))) rfl (bo_ok (by decide))
set_option maxRecDepth 20000 in
theorem t26_2 (hR : RS R) {v1 : Int32} {v2 : Int32}  (k1 : (nI 8 ≤ v2) → Q (.inl (some (pm_i (nI 0))), (mm x R Z Y o A c G g))) (k2 : (¬ (nI 8 ≤ v2)) → pW ns d 26 8 [some (pm_r 0 0), some (pm_i v1), some (pm_i v2)] [] (mm x R Z Y o A c G g) Q) : pW ns d 26 2 [some (pm_r 0 0), some (pm_i v1), some (pm_i v2)] [] (mm x R Z Y o A c G g) Q := by
  refine b26_2 hR  (fun h1 => ?_) (fun h1 => ?_)
  · skip
    exact b26_41 hR   (k1 h1)
  · skip
    exact (k2 h1)
set_option maxRecDepth 20000 in
theorem t26_17 (hR : RS R) {v1 : Int32} {v2 : Int32} {vs0 : Int32}  (k1 : (vs0 = 0) → pW ns d 26 2 [some (pm_r 0 0), some (pm_i v1), some (pm_i (v2 + (nI 1)))] [] (mm x R Z Y o A c G g) Q) (k2 : (¬ (vs0 = 0)) → pW ns d 26 20 [some (pm_r 0 0), some (pm_i v1), some (pm_i v2)] [] (mm x R Z Y o A c G g) Q) : pW ns d 26 17 [some (pm_r 0 0), some (pm_i v1), some (pm_i v2)] [pm_i vs0] (mm x R Z Y o A c G g) Q := by
  refine b26_17 hR  (fun h1 => ?_) (fun h1 => ?_)
  · skip
    exact b26_35 hR   (k1 h1)
  · skip
    exact (k2 h1)
set_option maxRecDepth 20000 in
theorem t26_20 (hR : RS R) {v1 : Int32} {v2 : Int32} {j1 : Nat} (e1 : v2 = nI j1) (l1 : j1 < 8) (k1 : (A 8 j1 8 = v1) → Q (.inl (some (pm_i (nI 1))), (mm x R Z Y o A c G g))) (k2 : (¬ (A 8 j1 8 = v1)) → pW ns d 26 2 [some (pm_r 0 0), some (pm_i v1), some (pm_i (v2 + (nI 1)))] [] (mm x R Z Y o A c G g) Q) : pW ns d 26 20 [some (pm_r 0 0), some (pm_i v1), some (pm_i v2)] [] (mm x R Z Y o A c G g) Q := by
  refine b26_20 hR e1 l1 (fun h1 => ?_) (fun h1 => ?_)
  · skip
    exact b26_33 hR   (k1 h1)
  · skip
    exact b26_35 hR   (k2 h1)
/-! 27 JobLayer.isOrphaned -/
set_option maxRecDepth 20000 in
theorem b27_0 (hR : RS R) {v1 : Int32} {u2 : Option pm_V} {u3 : Option pm_V} {u4 : Option pm_V}   (k : pW ns d 27 2 [some (pm_r 0 0), some (pm_i v1), some (pm_i (nI 0)), u3, u4] [] (mm x R Z Y o A c G g) Q) : pW ns d 27 0 [some (pm_r 0 0), some (pm_i v1), u2, u3, u4] [] (mm x R Z Y o A c G g) Q := by
  exact pW_eq 2 (fun call n => rfl) k
set_option maxRecDepth 20000 in
theorem b27_2 (hR : RS R) {v1 : Int32} {v2 : Int32} {u3 : Option pm_V} {u4 : Option pm_V}   (k1 : nI 8 ≤ v2 → pW ns d 27 67 [some (pm_r 0 0), some (pm_i v1), some (pm_i v2), u3, u4] [] (mm x R Z Y o A c G g) Q) (k2 : ¬ (nI 8 ≤ v2) → pW ns d 27 8 [some (pm_r 0 0), some (pm_i v1), some (pm_i v2), u3, u4] [] (mm x R Z Y o A c G g) Q) : pW ns d 27 2 [some (pm_r 0 0), some (pm_i v1), some (pm_i v2), u3, u4] [] (mm x R Z Y o A c G g) Q := by
  exact pW_if 3 (c := nI 8 ≤ v2) (fun call n => rfl) k1 k2
set_option maxRecDepth 20000 in
theorem b27_67 (hR : RS R) {u0 : Option pm_V} {u1 : Option pm_V} {u2 : Option pm_V} {u3 : Option pm_V} {u4 : Option pm_V}   (k : Q (.inl (some (pm_i (nI 1))), (mm x R Z Y o A c G g))) : pW ns d 27 67 [u0, u1, u2, u3, u4] [] (mm x R Z Y o A c G g) Q := by
  refine pW_ret 2 (fun call n => ?_) k
  exact Eq.trans (b := pm_bo (nI 1) (some (.inl (some (pm_i (nI 1))), (mm x R Z Y o A c G g)))) rfl (bo_ok (by decide))
set_option maxRecDepth 20000 in
theorem b27_8 (hR : RS R) {v1 : Int32} {v2 : Int32} {u3 : Option pm_V} {u4 : Option pm_V} {j1 : Nat} (e1 : v2 = nI j1) (l1 : j1 < 8) {x2 : Nat} {o2 : Int64} {A2 : Nat → Nat → Nat → Int32} {c2 : Nat → Int64} {G2 : Nat → Nat → Int32} {g2 : Nat → Int64} {j : Nat} (hE : pE ns d 25 [pm_r 0 0, pm_r 8 j1] (mm x R Z Y o A c G g) (.inl (some (pm_r 8 j)), (mm x2 R Z Y o2 A2 c2 G2 g2))) (k : pW ns d 27 20 [some (pm_r 0 0), some (pm_i v1), some (pm_i v2), some (pm_r 8 j1), u4] [pm_r 8 j] (mm x2 R Z Y o2 A2 c2 G2 g2) Q) : pW ns d 27 8 [some (pm_r 0 0), some (pm_i v1), some (pm_i v2), u3, u4] [] (mm x R Z Y o A c G g) Q := by
  refine pW_eq 2 (pc' := 12) (L' := [some (pm_r 0 0), some (pm_i v1), some (pm_i v2), u3, u4]) (S' := [pm_r 1 0]) (M' := (mm x R Z Y o A c G g)) (fun call n => ?_) ?_
  · refine Eq.trans (b := pm_g (mm x R Z Y o A c G g) 0 0 (pm_go call ns d 27 n 12 [some (pm_r 0 0), some (pm_i v1), some (pm_i v2), u3, u4] [pm_a (R 0 0 0)] (mm x R Z Y o A c G g))) rfl ?_
    refine (g_ok (f := 0) (by decide) rfl).trans ?_
    exact (congrArg (fun z => pm_go call ns d 27 n 12 [some (pm_r 0 0), some (pm_i v1), some (pm_i v2), u3, u4] [pm_a z] (mm x R Z Y o A c G g)) (rs_0_0 hR))
  refine pW_eq 2 (pc' := 14) (L' := [some (pm_r 0 0), some (pm_i v1), some (pm_i v2), u3, u4]) (S' := [pm_r 8 j1]) (M' := (mm x R Z Y o A c G g)) (fun call n => ?_) ?_
  · refine Eq.trans (b := pm_g (mm x R Z Y o A c G g) 1 0 (pm_ix (v2) 8 (fun jx => pm_go call ns d 27 n 14 [some (pm_r 0 0), some (pm_i v1), some (pm_i v2), u3, u4] [pm_a (R 1 0 jx)] (mm x R Z Y o A c G g)))) rfl ?_
    refine (g_ok (f := 1) (by decide) rfl).trans ?_
    refine (ix_ok (j := j1) e1 l1 (by decide)).trans ?_
    exact (congrArg (fun z => pm_go call ns d 27 n 14 [some (pm_r 0 0), some (pm_i v1), some (pm_i v2), u3, u4] [pm_a z] (mm x R Z Y o A c G g)) (rs_1 hR (k := j1) l1))
  refine pW_call (pc' := 17) (r := []) (L' := [some (pm_r 0 0), some (pm_i v1), some (pm_i v2), some (pm_r 8 j1), u4]) 4 (fun call n => ?_) hE k
  exact Eq.trans (b := pm_g (mm x R Z Y o A c G g) 0 0 (pm_cl call 27 (pm_go call ns d 27 n) 17 25 [pm_r 0 0, pm_r 8 j1] [] [some (pm_r 0 0), some (pm_i v1), some (pm_i v2), some (pm_r 8 j1), u4] (mm x R Z Y o A c G g))) rfl (g_ok (f := 0) (by decide) rfl)
set_option maxRecDepth 20000 in
theorem b27_8n (hR : RS R) {v1 : Int32} {v2 : Int32} {u3 : Option pm_V} {u4 : Option pm_V} {j1 : Nat} (e1 : v2 = nI j1) (l1 : j1 < 8) {x2 : Nat} {o2 : Int64} {A2 : Nat → Nat → Nat → Int32} {c2 : Nat → Int64} {G2 : Nat → Nat → Int32} {g2 : Nat → Int64}  (hE : pE ns d 25 [pm_r 0 0, pm_r 8 j1] (mm x R Z Y o A c G g) (.inl (some (pm_a none)), (mm x2 R Z Y o2 A2 c2 G2 g2))) (k : pW ns d 27 20 [some (pm_r 0 0), some (pm_i v1), some (pm_i v2), some (pm_r 8 j1), u4] [pm_a none] (mm x2 R Z Y o2 A2 c2 G2 g2) Q) : pW ns d 27 8 [some (pm_r 0 0), some (pm_i v1), some (pm_i v2), u3, u4] [] (mm x R Z Y o A c G g) Q := by
  refine pW_eq 2 (pc' := 12) (L' := [some (pm_r 0 0), some (pm_i v1), some (pm_i v2), u3, u4]) (S' := [pm_r 1 0]) (M' := (mm x R Z Y o A c G g)) (fun call n => ?_) ?_
  · refine Eq.trans (b := pm_g (mm x R Z Y o A c G g) 0 0 (pm_go call ns d 27 n 12 [some (pm_r 0 0), some (pm_i v1), some (pm_i v2), u3, u4] [pm_a (R 0 0 0)] (mm x R Z Y o A c G g))) rfl ?_
    refine (g_ok (f := 0) (by decide) rfl).trans ?_
    exact (congrArg (fun z => pm_go call ns d 27 n 12 [some (pm_r 0 0), some (pm_i v1), some (pm_i v2), u3, u4] [pm_a z] (mm x R Z Y o A c G g)) (rs_0_0 hR))
  refine pW_eq 2 (pc' := 14) (L' := [some (pm_r 0 0), some (pm_i v1), some (pm_i v2), u3, u4]) (S' := [pm_r 8 j1]) (M' := (mm x R Z Y o A c G g)) (fun call n => ?_) ?_
  · refine Eq.trans (b := pm_g (mm x R Z Y o A c G g) 1 0 (pm_ix (v2) 8 (fun jx => pm_go call ns d 27 n 14 [some (pm_r 0 0), some (pm_i v1), some (pm_i v2), u3, u4] [pm_a (R 1 0 jx)] (mm x R Z Y o A c G g)))) rfl ?_
    refine (g_ok (f := 1) (by decide) rfl).trans ?_
    refine (ix_ok (j := j1) e1 l1 (by decide)).trans ?_
    exact (congrArg (fun z => pm_go call ns d 27 n 14 [some (pm_r 0 0), some (pm_i v1), some (pm_i v2), u3, u4] [pm_a z] (mm x R Z Y o A c G g)) (rs_1 hR (k := j1) l1))
  refine pW_call (pc' := 17) (r := []) (L' := [some (pm_r 0 0), some (pm_i v1), some (pm_i v2), some (pm_r 8 j1), u4]) 4 (fun call n => ?_) hE k
  exact Eq.trans (b := pm_g (mm x R Z Y o A c G g) 0 0 (pm_cl call 27 (pm_go call ns d 27 n) 17 25 [pm_r 0 0, pm_r 8 j1] [] [some (pm_r 0 0), some (pm_i v1), some (pm_i v2), some (pm_r 8 j1), u4] (mm x R Z Y o A c G g))) rfl (g_ok (f := 0) (by decide) rfl)
set_option maxRecDepth 20000 in
theorem b27_20 (hR : RS R) {v1 : Int32} {v2 : Int32} {i3 : Nat} {u4 : Option pm_V} {is0 : Nat} (q3 : i3 < 8) (qs0 : is0 < 8) {x2 : Nat} {o2 : Int64} {A2 : Nat → Nat → Nat → Int32} {c2 : Nat → Int64} {G2 : Nat → Nat → Int32} {g2 : Nat → Int64} {y : Int32} (hE : pE ns d 112 [pm_r 8 i3] (mm x R Z Y o A c G g) (.inl (some (pm_i y)), (mm x2 R Z Y o2 A2 c2 G2 g2))) (k : pW ns d 27 26 [some (pm_r 0 0), some (pm_i v1), some (pm_i v2), some (pm_r 8 i3), some (pm_r 8 is0)] [pm_i y] (mm x2 R Z Y o2 A2 c2 G2 g2) Q) : pW ns d 27 20 [some (pm_r 0 0), some (pm_i v1), some (pm_i v2), some (pm_r 8 i3), u4] [pm_r 8 is0] (mm x R Z Y o A c G g) Q := by
  refine pW_call (pc' := 23) (r := []) (L' := [some (pm_r 0 0), some (pm_i v1), some (pm_i v2), some (pm_r 8 i3), some (pm_r 8 is0)]) 3 (fun call n => ?_) hE k
  exact Eq.trans (b := pm_g (mm x R Z Y o A c G g) 8 i3 (pm_cl call 27 (pm_go call ns d 27 n) 23 112 [pm_r 8 i3] [] [some (pm_r 0 0), some (pm_i v1), some (pm_i v2), some (pm_r 8 i3), some (pm_r 8 is0)] (mm x R Z Y o A c G g))) rfl (g_ok (f := 8) q3 rfl)
set_option maxRecDepth 20000 in
theorem b27_20a (hR : RS R) {v1 : Int32} {v2 : Int32} {i3 : Nat} {u4 : Option pm_V} (q3 : i3 < 8) {x2 : Nat} {o2 : Int64} {A2 : Nat → Nat → Nat → Int32} {c2 : Nat → Int64} {G2 : Nat → Nat → Int32} {g2 : Nat → Int64} {y : Int32} (hE : pE ns d 112 [pm_r 8 i3] (mm x R Z Y o A c G g) (.inl (some (pm_i y)), (mm x2 R Z Y o2 A2 c2 G2 g2))) (k : pW ns d 27 26 [some (pm_r 0 0), some (pm_i v1), some (pm_i v2), some (pm_r 8 i3), some (pm_a none)] [pm_i y] (mm x2 R Z Y o2 A2 c2 G2 g2) Q) : pW ns d 27 20 [some (pm_r 0 0), some (pm_i v1), some (pm_i v2), some (pm_r 8 i3), u4] [pm_a none] (mm x R Z Y o A c G g) Q := by
  refine pW_call (pc' := 23) (r := []) (L' := [some (pm_r 0 0), some (pm_i v1), some (pm_i v2), some (pm_r 8 i3), some (pm_a none)]) 3 (fun call n => ?_) hE k
  exact Eq.trans (b := pm_g (mm x R Z Y o A c G g) 8 i3 (pm_cl call 27 (pm_go call ns d 27 n) 23 112 [pm_r 8 i3] [] [some (pm_r 0 0), some (pm_i v1), some (pm_i v2), some (pm_r 8 i3), some (pm_a none)] (mm x R Z Y o A c G g))) rfl (g_ok (f := 8) q3 rfl)
set_option maxRecDepth 20000 in
theorem b27_26 (hR : RS R) {v1 : Int32} {v2 : Int32} {i3 : Nat} {i4 : Nat} {vs0 : Int32} (q3 : i3 < 8) (q4 : i4 < 8)  (k1 : vs0 = 0 → pW ns d 27 61 [some (pm_r 0 0), some (pm_i v1), some (pm_i v2), some (pm_r 8 i3), some (pm_r 8 i4)] [] (mm x R Z Y o A c G g) Q) (k2 : ¬ (vs0 = 0) → pW ns d 27 29 [some (pm_r 0 0), some (pm_i v1), some (pm_i v2), some (pm_r 8 i3), some (pm_r 8 i4)] [] (mm x R Z Y o A c G g) Q) : pW ns d 27 26 [some (pm_r 0 0), some (pm_i v1), some (pm_i v2), some (pm_r 8 i3), some (pm_r 8 i4)] [pm_i vs0] (mm x R Z Y o A c G g) Q := by
  exact pW_if 1 (c := vs0 = 0) (fun call n => rfl) k1 k2
set_option maxRecDepth 20000 in
theorem b27_26a (hR : RS R) {v1 : Int32} {v2 : Int32} {i3 : Nat} {vs0 : Int32} (q3 : i3 < 8)  (k1 : vs0 = 0 → pW ns d 27 61 [some (pm_r 0 0), some (pm_i v1), some (pm_i v2), some (pm_r 8 i3), some (pm_a none)] [] (mm x R Z Y o A c G g) Q) (k2 : ¬ (vs0 = 0) → pW ns d 27 29 [some (pm_r 0 0), some (pm_i v1), some (pm_i v2), some (pm_r 8 i3), some (pm_a none)] [] (mm x R Z Y o A c G g) Q) : pW ns d 27 26 [some (pm_r 0 0), some (pm_i v1), some (pm_i v2), some (pm_r 8 i3), some (pm_a none)] [pm_i vs0] (mm x R Z Y o A c G g) Q := by
  exact pW_if 1 (c := vs0 = 0) (fun call n => rfl) k1 k2
set_option maxRecDepth 20000 in
theorem b27_61 (hR : RS R) {v1 : Int32} {v2 : Int32} {u3 : Option pm_V} {u4 : Option pm_V}   (k : pW ns d 27 2 [some (pm_r 0 0), some (pm_i v1), some (pm_i (v2 + (nI 1))), u3, u4] [] (mm x R Z Y o A c G g) Q) : pW ns d 27 61 [some (pm_r 0 0), some (pm_i v1), some (pm_i v2), u3, u4] [] (mm x R Z Y o A c G g) Q := by
  exact pW_eq 2 (fun call n => rfl) k
set_option maxRecDepth 20000 in
theorem b27_29 (hR : RS R) {v1 : Int32} {v2 : Int32} {i3 : Nat} {i4 : Nat} (q3 : i3 < 8) (q4 : i4 < 8)  (k1 : A 8 i3 8 = v1 → pW ns d 27 37 [some (pm_r 0 0), some (pm_i v1), some (pm_i v2), some (pm_r 8 i3), some (pm_r 8 i4)] [] (mm x R Z Y o A c G g) Q) (k2 : ¬ (A 8 i3 8 = v1) → pW ns d 27 61 [some (pm_r 0 0), some (pm_i v1), some (pm_i v2), some (pm_r 8 i3), some (pm_r 8 i4)] [] (mm x R Z Y o A c G g) Q) : pW ns d 27 29 [some (pm_r 0 0), some (pm_i v1), some (pm_i v2), some (pm_r 8 i3), some (pm_r 8 i4)] [] (mm x R Z Y o A c G g) Q := by
  refine pW_eq 2 (pc' := 33) (L' := [some (pm_r 0 0), some (pm_i v1), some (pm_i v2), some (pm_r 8 i3), some (pm_r 8 i4)]) (S' := [pm_i (A 8 i3 8)]) (M' := (mm x R Z Y o A c G g)) (fun call n => ?_) ?_
  · refine Eq.trans (b := pm_g (mm x R Z Y o A c G g) 8 i3 (pm_go call ns d 27 n 33 [some (pm_r 0 0), some (pm_i v1), some (pm_i v2), some (pm_r 8 i3), some (pm_r 8 i4)] [pm_i (A 8 i3 8)] (mm x R Z Y o A c G g))) rfl ?_
    refine (g_ok (f := 8) q3 rfl).trans ?_
    rfl
  exact pW_if 2 (c := A 8 i3 8 = v1) (fun call n => rfl) k1 k2
set_option maxRecDepth 20000 in
theorem b27_29a (hR : RS R) {v1 : Int32} {v2 : Int32} {i3 : Nat} (q3 : i3 < 8)  (k1 : A 8 i3 8 = v1 → pW ns d 27 37 [some (pm_r 0 0), some (pm_i v1), some (pm_i v2), some (pm_r 8 i3), some (pm_a none)] [] (mm x R Z Y o A c G g) Q) (k2 : ¬ (A 8 i3 8 = v1) → pW ns d 27 61 [some (pm_r 0 0), some (pm_i v1), some (pm_i v2), some (pm_r 8 i3), some (pm_a none)] [] (mm x R Z Y o A c G g) Q) : pW ns d 27 29 [some (pm_r 0 0), some (pm_i v1), some (pm_i v2), some (pm_r 8 i3), some (pm_a none)] [] (mm x R Z Y o A c G g) Q := by
  refine pW_eq 2 (pc' := 33) (L' := [some (pm_r 0 0), some (pm_i v1), some (pm_i v2), some (pm_r 8 i3), some (pm_a none)]) (S' := [pm_i (A 8 i3 8)]) (M' := (mm x R Z Y o A c G g)) (fun call n => ?_) ?_
  · refine Eq.trans (b := pm_g (mm x R Z Y o A c G g) 8 i3 (pm_go call ns d 27 n 33 [some (pm_r 0 0), some (pm_i v1), some (pm_i v2), some (pm_r 8 i3), some (pm_a none)] [pm_i (A 8 i3 8)] (mm x R Z Y o A c G g))) rfl ?_
    refine (g_ok (f := 8) q3 rfl).trans ?_
    rfl
  exact pW_if 2 (c := A 8 i3 8 = v1) (fun call n => rfl) k1 k2
set_option maxRecDepth 20000 in
theorem b27_37 (hR : RS R) {v1 : Int32} {v2 : Int32} {u3 : Option pm_V} {i4 : Nat} (q4 : i4 < 8) {x2 : Nat} {o2 : Int64} {A2 : Nat → Nat → Nat → Int32} {c2 : Nat → Int64} {G2 : Nat → Nat → Int32} {g2 : Nat → Int64} {y : Int32} (hE : pE ns d 112 [pm_r 8 i4] (mm x R Z Y o A c G g) (.inl (some (pm_i y)), (mm x2 R Z Y o2 A2 c2 G2 g2))) (k : pW ns d 27 47 [some (pm_r 0 0), some (pm_i v1), some (pm_i v2), u3, some (pm_r 8 i4)] [pm_i y] (mm x2 R Z Y o2 A2 c2 G2 g2) Q) : pW ns d 27 37 [some (pm_r 0 0), some (pm_i v1), some (pm_i v2), u3, some (pm_r 8 i4)] [] (mm x R Z Y o A c G g) Q := by
  refine pW_call (pc' := 44) (r := []) (L' := [some (pm_r 0 0), some (pm_i v1), some (pm_i v2), u3, some (pm_r 8 i4)]) 4 (fun call n => ?_) hE k
  exact Eq.trans (b := pm_g (mm x R Z Y o A c G g) 8 i4 (pm_cl call 27 (pm_go call ns d 27 n) 44 112 [pm_r 8 i4] [] [some (pm_r 0 0), some (pm_i v1), some (pm_i v2), u3, some (pm_r 8 i4)] (mm x R Z Y o A c G g))) rfl (g_ok (f := 8) q4 rfl)
set_option maxRecDepth 20000 in
theorem b27_37a (hR : RS R) {v1 : Int32} {v2 : Int32} {u3 : Option pm_V}   (k : pW ns d 27 2 [some (pm_r 0 0), some (pm_i v1), some (pm_i (v2 + (nI 1))), u3, some (pm_a none)] [] (mm x R Z Y o A c G g) Q) : pW ns d 27 37 [some (pm_r 0 0), some (pm_i v1), some (pm_i v2), u3, some (pm_a none)] [] (mm x R Z Y o A c G g) Q := by
  exact pW_eq 4 (fun call n => rfl) k
set_option maxRecDepth 20000 in
theorem b27_47 (hR : RS R) {v1 : Int32} {v2 : Int32} {u3 : Option pm_V} {i4 : Nat} {vs0 : Int32} (q4 : i4 < 8)  (k1 : vs0 = 0 → pW ns d 27 61 [some (pm_r 0 0), some (pm_i v1), some (pm_i v2), u3, some (pm_r 8 i4)] [] (mm x R Z Y o A c G g) Q) (k2 : ¬ (vs0 = 0) → pW ns d 27 50 [some (pm_r 0 0), some (pm_i v1), some (pm_i v2), u3, some (pm_r 8 i4)] [] (mm x R Z Y o A c G g) Q) : pW ns d 27 47 [some (pm_r 0 0), some (pm_i v1), some (pm_i v2), u3, some (pm_r 8 i4)] [pm_i vs0] (mm x R Z Y o A c G g) Q := by
  exact pW_if 1 (c := vs0 = 0) (fun call n => rfl) k1 k2
set_option maxRecDepth 20000 in
theorem b27_50 (hR : RS R) {v1 : Int32} {v2 : Int32} {u3 : Option pm_V} {i4 : Nat} (q4 : i4 < 8)  (k1 : A 8 i4 8 = v1 → pW ns d 27 61 [some (pm_r 0 0), some (pm_i v1), some (pm_i v2), u3, some (pm_r 8 i4)] [] (mm x R Z Y o A c G g) Q) (k2 : ¬ (A 8 i4 8 = v1) → pW ns d 27 59 [some (pm_r 0 0), some (pm_i v1), some (pm_i v2), u3, some (pm_r 8 i4)] [] (mm x R Z Y o A c G g) Q) : pW ns d 27 50 [some (pm_r 0 0), some (pm_i v1), some (pm_i v2), u3, some (pm_r 8 i4)] [] (mm x R Z Y o A c G g) Q := by
  refine pW_eq 2 (pc' := 55) (L' := [some (pm_r 0 0), some (pm_i v1), some (pm_i v2), u3, some (pm_r 8 i4)]) (S' := [pm_i (A 8 i4 8)]) (M' := (mm x R Z Y o A c G g)) (fun call n => ?_) ?_
  · refine Eq.trans (b := pm_g (mm x R Z Y o A c G g) 8 i4 (pm_go call ns d 27 n 55 [some (pm_r 0 0), some (pm_i v1), some (pm_i v2), u3, some (pm_r 8 i4)] [pm_i (A 8 i4 8)] (mm x R Z Y o A c G g))) rfl ?_
    refine (g_ok (f := 8) q4 rfl).trans ?_
    rfl
  exact pW_if 2 (c := A 8 i4 8 = v1) (fun call n => rfl) k1 k2
set_option maxRecDepth 20000 in
theorem b27_59 (hR : RS R) {u0 : Option pm_V} {u1 : Option pm_V} {u2 : Option pm_V} {u3 : Option pm_V} {u4 : Option pm_V}   (k : Q (.inl (some (pm_i (nI 0))), (mm x R Z Y o A c G g))) : pW ns d 27 59 [u0, u1, u2, u3, u4] [] (mm x R Z Y o A c G g) Q := by
  refine pW_ret 2 (fun call n => ?_) k
  exact Eq.trans (b := pm_bo (nI 0) (some (.inl (some (pm_i (nI 0))), (mm x R Z Y o A c G g)))) rfl (bo_ok (by decide))
set_option maxRecDepth 20000 in
theorem t27_2 (hR : RS R) {v1 : Int32} {v2 : Int32} {u3 : Option pm_V} {u4 : Option pm_V}  (k1 : (nI 8 ≤ v2) → Q (.inl (some (pm_i (nI 1))), (mm x R Z Y o A c G g))) (k2 : (¬ (nI 8 ≤ v2)) → pW ns d 27 8 [some (pm_r 0 0), some (pm_i v1), some (pm_i v2), u3, u4] [] (mm x R Z Y o A c G g) Q) : pW ns d 27 2 [some (pm_r 0 0), some (pm_i v1), some (pm_i v2), u3, u4] [] (mm x R Z Y o A c G g) Q := by
  refine b27_2 hR  (fun h1 => ?_) (fun h1 => ?_)
  · skip
    exact b27_67 hR   (k1 h1)
  · skip
    exact (k2 h1)
set_option maxRecDepth 20000 in
theorem t27_26 (hR : RS R) {v1 : Int32} {v2 : Int32} {i3 : Nat} {i4 : Nat} {vs0 : Int32} (q3 : i3 < 8) (q4 : i4 < 8) (k1 : (vs0 = 0) → pW ns d 27 2 [some (pm_r 0 0), some (pm_i v1), some (pm_i (v2 + (nI 1))), some (pm_r 8 i3), some (pm_r 8 i4)] [] (mm x R Z Y o A c G g) Q) (k2 : (¬ (vs0 = 0)) → (A 8 i3 8 = v1) → pW ns d 27 37 [some (pm_r 0 0), some (pm_i v1), some (pm_i v2), some (pm_r 8 i3), some (pm_r 8 i4)] [] (mm x R Z Y o A c G g) Q) (k3 : (¬ (vs0 = 0)) → (¬ (A 8 i3 8 = v1)) → pW ns d 27 2 [some (pm_r 0 0), some (pm_i v1), some (pm_i (v2 + (nI 1))), some (pm_r 8 i3), some (pm_r 8 i4)] [] (mm x R Z Y o A c G g) Q) : pW ns d 27 26 [some (pm_r 0 0), some (pm_i v1), some (pm_i v2), some (pm_r 8 i3), some (pm_r 8 i4)] [pm_i vs0] (mm x R Z Y o A c G g) Q := by
  refine b27_26 hR q3 q4 (fun h1 => ?_) (fun h1 => ?_)
  · skip
    exact b27_61 hR   (k1 h1)
  · skip
    refine b27_29 hR q3 q4  (fun h2 => ?_) (fun h2 => ?_)
    · skip
      exact (k2 h1 h2)
    · skip
      exact b27_61 hR   (k3 h1 h2)
set_option maxRecDepth 20000 in
theorem t27_26a (hR : RS R) {v1 : Int32} {v2 : Int32} {i3 : Nat} {vs0 : Int32} (q3 : i3 < 8) (k1 : (vs0 = 0) → pW ns d 27 2 [some (pm_r 0 0), some (pm_i v1), some (pm_i (v2 + (nI 1))), some (pm_r 8 i3), some (pm_a none)] [] (mm x R Z Y o A c G g) Q) (k2 : (¬ (vs0 = 0)) → (A 8 i3 8 = v1) → pW ns d 27 2 [some (pm_r 0 0), some (pm_i v1), some (pm_i (v2 + (nI 1))), some (pm_r 8 i3), some (pm_a none)] [] (mm x R Z Y o A c G g) Q) (k3 : (¬ (vs0 = 0)) → (¬ (A 8 i3 8 = v1)) → pW ns d 27 2 [some (pm_r 0 0), some (pm_i v1), some (pm_i (v2 + (nI 1))), some (pm_r 8 i3), some (pm_a none)] [] (mm x R Z Y o A c G g) Q) : pW ns d 27 26 [some (pm_r 0 0), some (pm_i v1), some (pm_i v2), some (pm_r 8 i3), some (pm_a none)] [pm_i vs0] (mm x R Z Y o A c G g) Q := by
  refine b27_26a hR q3 (fun h1 => ?_) (fun h1 => ?_)
  · skip
    exact b27_61 hR   (k1 h1)
  · skip
    refine b27_29a hR q3  (fun h2 => ?_) (fun h2 => ?_)
    · skip
      exact b27_37a hR   (k2 h1 h2)
    · skip
      exact b27_61 hR   (k3 h1 h2)
set_option maxRecDepth 20000 in
theorem t27_29 (hR : RS R) {v1 : Int32} {v2 : Int32} {i3 : Nat} {i4 : Nat} (q3 : i3 < 8) (q4 : i4 < 8) (k1 : (A 8 i3 8 = v1) → pW ns d 27 37 [some (pm_r 0 0), some (pm_i v1), some (pm_i v2), some (pm_r 8 i3), some (pm_r 8 i4)] [] (mm x R Z Y o A c G g) Q) (k2 : (¬ (A 8 i3 8 = v1)) → pW ns d 27 2 [some (pm_r 0 0), some (pm_i v1), some (pm_i (v2 + (nI 1))), some (pm_r 8 i3), some (pm_r 8 i4)] [] (mm x R Z Y o A c G g) Q) : pW ns d 27 29 [some (pm_r 0 0), some (pm_i v1), some (pm_i v2), some (pm_r 8 i3), some (pm_r 8 i4)] [] (mm x R Z Y o A c G g) Q := by
  refine b27_29 hR q3 q4 (fun h1 => ?_) (fun h1 => ?_)
  · skip
    exact (k1 h1)
  · skip
    exact b27_61 hR   (k2 h1)
set_option maxRecDepth 20000 in
theorem t27_29a (hR : RS R) {v1 : Int32} {v2 : Int32} {i3 : Nat} (q3 : i3 < 8) (k1 : (A 8 i3 8 = v1) → pW ns d 27 2 [some (pm_r 0 0), some (pm_i v1), some (pm_i (v2 + (nI 1))), some (pm_r 8 i3), some (pm_a none)] [] (mm x R Z Y o A c G g) Q) (k2 : (¬ (A 8 i3 8 = v1)) → pW ns d 27 2 [some (pm_r 0 0), some (pm_i v1), some (pm_i (v2 + (nI 1))), some (pm_r 8 i3), some (pm_a none)] [] (mm x R Z Y o A c G g) Q) : pW ns d 27 29 [some (pm_r 0 0), some (pm_i v1), some (pm_i v2), some (pm_r 8 i3), some (pm_a none)] [] (mm x R Z Y o A c G g) Q := by
  refine b27_29a hR q3 (fun h1 => ?_) (fun h1 => ?_)
  · skip
    exact b27_37a hR   (k1 h1)
  · skip
    exact b27_61 hR   (k2 h1)
set_option maxRecDepth 20000 in
theorem t27_47 (hR : RS R) {v1 : Int32} {v2 : Int32} {u3 : Option pm_V} {i4 : Nat} {vs0 : Int32} (q4 : i4 < 8) (k1 : (vs0 = 0) → pW ns d 27 2 [some (pm_r 0 0), some (pm_i v1), some (pm_i (v2 + (nI 1))), u3, some (pm_r 8 i4)] [] (mm x R Z Y o A c G g) Q) (k2 : (¬ (vs0 = 0)) → (A 8 i4 8 = v1) → pW ns d 27 2 [some (pm_r 0 0), some (pm_i v1), some (pm_i (v2 + (nI 1))), u3, some (pm_r 8 i4)] [] (mm x R Z Y o A c G g) Q) (k3 : (¬ (vs0 = 0)) → (¬ (A 8 i4 8 = v1)) → Q (.inl (some (pm_i (nI 0))), (mm x R Z Y o A c G g))) : pW ns d 27 47 [some (pm_r 0 0), some (pm_i v1), some (pm_i v2), u3, some (pm_r 8 i4)] [pm_i vs0] (mm x R Z Y o A c G g) Q := by
  refine b27_47 hR q4 (fun h1 => ?_) (fun h1 => ?_)
  · skip
    exact b27_61 hR   (k1 h1)
  · skip
    refine b27_50 hR q4  (fun h2 => ?_) (fun h2 => ?_)
    · skip
      exact b27_61 hR   (k2 h1 h2)
    · skip
      exact b27_59 hR   (k3 h1 h2)
set_option maxRecDepth 20000 in
theorem t27_50 (hR : RS R) {v1 : Int32} {v2 : Int32} {u3 : Option pm_V} {i4 : Nat} (q4 : i4 < 8) (k1 : (A 8 i4 8 = v1) → pW ns d 27 2 [some (pm_r 0 0), some (pm_i v1), some (pm_i (v2 + (nI 1))), u3, some (pm_r 8 i4)] [] (mm x R Z Y o A c G g) Q) (k2 : (¬ (A 8 i4 8 = v1)) → Q (.inl (some (pm_i (nI 0))), (mm x R Z Y o A c G g))) : pW ns d 27 50 [some (pm_r 0 0), some (pm_i v1), some (pm_i v2), u3, some (pm_r 8 i4)] [] (mm x R Z Y o A c G g) Q := by
  refine b27_50 hR q4 (fun h1 => ?_) (fun h1 => ?_)
  · skip
    exact b27_61 hR   (k1 h1)
  · skip
    exact b27_59 hR   (k2 h1)
/-! 28 JobLayer.isOpen -/
set_option maxRecDepth 20000 in
theorem b28_0 (hR : RS R) {v1 : Int32} {u2 : Option pm_V} {u3 : Option pm_V}   (k : pW ns d 28 2 [some (pm_r 0 0), some (pm_i v1), some (pm_i (nI 0)), u3] [] (mm x R Z Y o A c G g) Q) : pW ns d 28 0 [some (pm_r 0 0), some (pm_i v1), u2, u3] [] (mm x R Z Y o A c G g) Q := by
  exact pW_eq 2 (fun call n => rfl) k
set_option maxRecDepth 20000 in
theorem b28_2 (hR : RS R) {v1 : Int32} {v2 : Int32} {u3 : Option pm_V}   (k1 : nI 8 ≤ v2 → pW ns d 28 45 [some (pm_r 0 0), some (pm_i v1), some (pm_i v2), u3] [] (mm x R Z Y o A c G g) Q) (k2 : ¬ (nI 8 ≤ v2) → pW ns d 28 8 [some (pm_r 0 0), some (pm_i v1), some (pm_i v2), u3] [] (mm x R Z Y o A c G g) Q) : pW ns d 28 2 [some (pm_r 0 0), some (pm_i v1), some (pm_i v2), u3] [] (mm x R Z Y o A c G g) Q := by
  exact pW_if 3 (c := nI 8 ≤ v2) (fun call n => rfl) k1 k2
set_option maxRecDepth 20000 in
theorem b28_45 (hR : RS R) {u0 : Option pm_V} {u1 : Option pm_V} {u2 : Option pm_V} {u3 : Option pm_V}   (k : Q (.inl (some (pm_i (nI 0))), (mm x R Z Y o A c G g))) : pW ns d 28 45 [u0, u1, u2, u3] [] (mm x R Z Y o A c G g) Q := by
  refine pW_ret 2 (fun call n => ?_) k
  exact Eq.trans (b := pm_bo (nI 0) (some (.inl (some (pm_i (nI 0))), (mm x R Z Y o A c G g)))) rfl (bo_ok (by decide))
set_option maxRecDepth 20000 in
theorem b28_8 (hR : RS R) {v1 : Int32} {v2 : Int32} {u3 : Option pm_V}   (k : pW ns d 28 10 [some (pm_r 0 0), some (pm_i v1), some (pm_i v2), some (pm_i (nI 0))] [] (mm x R Z Y o A c G g) Q) : pW ns d 28 8 [some (pm_r 0 0), some (pm_i v1), some (pm_i v2), u3] [] (mm x R Z Y o A c G g) Q := by
  exact pW_eq 2 (fun call n => rfl) k
set_option maxRecDepth 20000 in
theorem b28_10 (hR : RS R) {v1 : Int32} {v2 : Int32} {v3 : Int32}   (k1 : nI 6 ≤ v3 → pW ns d 28 39 [some (pm_r 0 0), some (pm_i v1), some (pm_i v2), some (pm_i v3)] [] (mm x R Z Y o A c G g) Q) (k2 : ¬ (nI 6 ≤ v3) → pW ns d 28 16 [some (pm_r 0 0), some (pm_i v1), some (pm_i v2), some (pm_i v3)] [] (mm x R Z Y o A c G g) Q) : pW ns d 28 10 [some (pm_r 0 0), some (pm_i v1), some (pm_i v2), some (pm_i v3)] [] (mm x R Z Y o A c G g) Q := by
  exact pW_if 3 (c := nI 6 ≤ v3) (fun call n => rfl) k1 k2
set_option maxRecDepth 20000 in
theorem b28_39 (hR : RS R) {v1 : Int32} {v2 : Int32} {u3 : Option pm_V}   (k : pW ns d 28 2 [some (pm_r 0 0), some (pm_i v1), some (pm_i (v2 + (nI 1))), u3] [] (mm x R Z Y o A c G g) Q) : pW ns d 28 39 [some (pm_r 0 0), some (pm_i v1), some (pm_i v2), u3] [] (mm x R Z Y o A c G g) Q := by
  exact pW_eq 2 (fun call n => rfl) k
set_option maxRecDepth 20000 in
theorem b28_16 (hR : RS R) {v1 : Int32} {v2 : Int32} {v3 : Int32} {j1 : Nat} {j2 : Nat} (e1 : v2 = nI j1) (l1 : j1 < 8) (e2 : v3 = nI j2) (l2 : j2 < 6)  (k1 : A 9 j1 j2 = v1 → pW ns d 28 31 [some (pm_r 0 0), some (pm_i v1), some (pm_i v2), some (pm_i v3)] [] (mm x R Z Y o A c G g) Q) (k2 : ¬ (A 9 j1 j2 = v1) → pW ns d 28 33 [some (pm_r 0 0), some (pm_i v1), some (pm_i v2), some (pm_i v3)] [] (mm x R Z Y o A c G g) Q) : pW ns d 28 16 [some (pm_r 0 0), some (pm_i v1), some (pm_i v2), some (pm_i v3)] [] (mm x R Z Y o A c G g) Q := by
  refine pW_eq 2 (pc' := 20) (L' := [some (pm_r 0 0), some (pm_i v1), some (pm_i v2), some (pm_i v3)]) (S' := [pm_r 1 0]) (M' := (mm x R Z Y o A c G g)) (fun call n => ?_) ?_
  · refine Eq.trans (b := pm_g (mm x R Z Y o A c G g) 0 0 (pm_go call ns d 28 n 20 [some (pm_r 0 0), some (pm_i v1), some (pm_i v2), some (pm_i v3)] [pm_a (R 0 0 0)] (mm x R Z Y o A c G g))) rfl ?_
    refine (g_ok (f := 0) (by decide) rfl).trans ?_
    exact (congrArg (fun z => pm_go call ns d 28 n 20 [some (pm_r 0 0), some (pm_i v1), some (pm_i v2), some (pm_i v3)] [pm_a z] (mm x R Z Y o A c G g)) (rs_0_0 hR))
  refine pW_eq 2 (pc' := 22) (L' := [some (pm_r 0 0), some (pm_i v1), some (pm_i v2), some (pm_i v3)]) (S' := [pm_r 8 j1]) (M' := (mm x R Z Y o A c G g)) (fun call n => ?_) ?_
  · refine Eq.trans (b := pm_g (mm x R Z Y o A c G g) 1 0 (pm_ix (v2) 8 (fun jx => pm_go call ns d 28 n 22 [some (pm_r 0 0), some (pm_i v1), some (pm_i v2), some (pm_i v3)] [pm_a (R 1 0 jx)] (mm x R Z Y o A c G g)))) rfl ?_
    refine (g_ok (f := 1) (by decide) rfl).trans ?_
    refine (ix_ok (j := j1) e1 l1 (by decide)).trans ?_
    exact (congrArg (fun z => pm_go call ns d 28 n 22 [some (pm_r 0 0), some (pm_i v1), some (pm_i v2), some (pm_i v3)] [pm_a z] (mm x R Z Y o A c G g)) (rs_1 hR (k := j1) l1))
  refine pW_eq 1 (pc' := 25) (L' := [some (pm_r 0 0), some (pm_i v1), some (pm_i v2), some (pm_i v3)]) (S' := [pm_r 9 j1]) (M' := (mm x R Z Y o A c G g)) (fun call n => ?_) ?_
  · refine Eq.trans (b := pm_g (mm x R Z Y o A c G g) 8 j1 (pm_go call ns d 28 n 25 [some (pm_r 0 0), some (pm_i v1), some (pm_i v2), some (pm_i v3)] [pm_a (R 8 j1 1)] (mm x R Z Y o A c G g))) rfl ?_
    refine (g_ok (f := 8) l1 rfl).trans ?_
    exact (congrArg (fun z => pm_go call ns d 28 n 25 [some (pm_r 0 0), some (pm_i v1), some (pm_i v2), some (pm_i v3)] [pm_a z] (mm x R Z Y o A c G g)) (rs_8_1 hR l1))
  refine pW_eq 2 (pc' := 27) (L' := [some (pm_r 0 0), some (pm_i v1), some (pm_i v2), some (pm_i v3)]) (S' := [pm_i (A 9 j1 j2)]) (M' := (mm x R Z Y o A c G g)) (fun call n => ?_) ?_
  · refine Eq.trans (b := pm_g (mm x R Z Y o A c G g) 9 j1 (pm_ix (v3) 6 (fun jx => pm_go call ns d 28 n 27 [some (pm_r 0 0), some (pm_i v1), some (pm_i v2), some (pm_i v3)] [pm_i (A 9 j1 jx)] (mm x R Z Y o A c G g)))) rfl ?_
    refine (g_ok (f := 9) l1 rfl).trans ?_
    refine (ix_ok (j := j2) e2 l2 (by decide)).trans ?_
    rfl
  exact pW_if 2 (c := A 9 j1 j2 = v1) (fun call n => rfl) k1 k2
set_option maxRecDepth 20000 in
theorem b28_31 (hR : RS R) {u0 : Option pm_V} {u1 : Option pm_V} {u2 : Option pm_V} {u3 : Option pm_V}   (k : Q (.inl (some (pm_i (nI 1))), (mm x R Z Y o A c G g))) : pW ns d 28 31 [u0, u1, u2, u3] [] (mm x R Z Y o A c G g) Q := by
  refine pW_ret 2 (fun call n => ?_) k
  exact Eq.trans (b := pm_bo (nI 1) (some (.inl (some (pm_i (nI 1))), (mm x R Z Y o A c G g)))) rfl (bo_ok (by decide))
set_option maxRecDepth 20000 in
theorem b28_33 (hR : RS R) {v1 : Int32} {v2 : Int32} {v3 : Int32}   (k : pW ns d 28 10 [some (pm_r 0 0), some (pm_i v1), some (pm_i v2), some (pm_i (v3 + (nI 1)))] [] (mm x R Z Y o A c G g) Q) : pW ns d 28 33 [some (pm_r 0 0), some (pm_i v1), some (pm_i v2), some (pm_i v3)] [] (mm x R Z Y o A c G g) Q := by
  exact pW_eq 2 (fun call n => rfl) k
set_option maxRecDepth 20000 in
theorem t28_2 (hR : RS R) {v1 : Int32} {v2 : Int32} {u3 : Option pm_V}  (k1 : (nI 8 ≤ v2) → Q (.inl (some (pm_i (nI 0))), (mm x R Z Y o A c G g))) (k2 : (¬ (nI 8 ≤ v2)) → pW ns d 28 10 [some (pm_r 0 0), some (pm_i v1), some (pm_i v2), some (pm_i (nI 0))] [] (mm x R Z Y o A c G g) Q) : pW ns d 28 2 [some (pm_r 0 0), some (pm_i v1), some (pm_i v2), u3] [] (mm x R Z Y o A c G g) Q := by
  refine b28_2 hR  (fun h1 => ?_) (fun h1 => ?_)
  · skip
    exact b28_45 hR   (k1 h1)
  · skip
    exact b28_8 hR   (k2 h1)
set_option maxRecDepth 20000 in
theorem t28_10 (hR : RS R) {v1 : Int32} {v2 : Int32} {v3 : Int32}  (k1 : (nI 6 ≤ v3) → pW ns d 28 2 [some (pm_r 0 0), some (pm_i v1), some (pm_i (v2 + (nI 1))), some (pm_i v3)] [] (mm x R Z Y o A c G g) Q) (k2 : (¬ (nI 6 ≤ v3)) → pW ns d 28 16 [some (pm_r 0 0), some (pm_i v1), some (pm_i v2), some (pm_i v3)] [] (mm x R Z Y o A c G g) Q) : pW ns d 28 10 [some (pm_r 0 0), some (pm_i v1), some (pm_i v2), some (pm_i v3)] [] (mm x R Z Y o A c G g) Q := by
  refine b28_10 hR  (fun h1 => ?_) (fun h1 => ?_)
  · skip
    exact b28_39 hR   (k1 h1)
  · skip
    exact (k2 h1)
set_option maxRecDepth 20000 in
theorem t28_16 (hR : RS R) {v1 : Int32} {v2 : Int32} {v3 : Int32} {j1 : Nat} {j2 : Nat} (e1 : v2 = nI j1) (l1 : j1 < 8) (e2 : v3 = nI j2) (l2 : j2 < 6) (k1 : (A 9 j1 j2 = v1) → Q (.inl (some (pm_i (nI 1))), (mm x R Z Y o A c G g))) (k2 : (¬ (A 9 j1 j2 = v1)) → pW ns d 28 10 [some (pm_r 0 0), some (pm_i v1), some (pm_i v2), some (pm_i (v3 + (nI 1)))] [] (mm x R Z Y o A c G g) Q) : pW ns d 28 16 [some (pm_r 0 0), some (pm_i v1), some (pm_i v2), some (pm_i v3)] [] (mm x R Z Y o A c G g) Q := by
  refine b28_16 hR e1 l1 e2 l2 (fun h1 => ?_) (fun h1 => ?_)
  · skip
    exact b28_31 hR   (k1 h1)
  · skip
    exact b28_33 hR   (k2 h1)
/-! 29 JobLayer.isPipe -/
set_option maxRecDepth 20000 in
theorem b29_0 (hR : RS R) {v1 : Int32}  {x2 : Nat} {o2 : Int64} {A2 : Nat → Nat → Nat → Int32} {c2 : Nat → Int64} {G2 : Nat → Nat → Int32} {g2 : Nat → Int64} {y : Int32} (hE : pE ns d 28 [pm_r 0 0, pm_i ((nI 2) + ((nI 2) * v1))] (mm x R Z Y o A c G g) (.inl (some (pm_i y)), (mm x2 R Z Y o2 A2 c2 G2 g2))) (k : pW ns d 29 9 [some (pm_r 0 0), some (pm_i v1)] [pm_i y] (mm x2 R Z Y o2 A2 c2 G2 g2) Q) : pW ns d 29 0 [some (pm_r 0 0), some (pm_i v1)] [] (mm x R Z Y o A c G g) Q := by
  refine pW_call (pc' := 6) (r := []) (L' := [some (pm_r 0 0), some (pm_i v1)]) 7 (fun call n => ?_) hE k
  exact Eq.trans (b := pm_g (mm x R Z Y o A c G g) 0 0 (pm_cl call 29 (pm_go call ns d 29 n) 6 28 [pm_r 0 0, pm_i ((nI 2) + ((nI 2) * v1))] [] [some (pm_r 0 0), some (pm_i v1)] (mm x R Z Y o A c G g))) rfl (g_ok (f := 0) (by decide) rfl)
set_option maxRecDepth 20000 in
theorem b29_9 (hR : RS R) {v1 : Int32} {vs0 : Int32}   (k1 : vs0 = 0 → pW ns d 29 12 [some (pm_r 0 0), some (pm_i v1)] [] (mm x R Z Y o A c G g) Q) (k2 : ¬ (vs0 = 0) → pW ns d 29 24 [some (pm_r 0 0), some (pm_i v1)] [] (mm x R Z Y o A c G g) Q) : pW ns d 29 9 [some (pm_r 0 0), some (pm_i v1)] [pm_i vs0] (mm x R Z Y o A c G g) Q := by
  exact pW_if 1 (c := vs0 = 0) (fun call n => rfl) k1 k2
set_option maxRecDepth 20000 in
theorem b29_12 (hR : RS R) {v1 : Int32}  {x2 : Nat} {o2 : Int64} {A2 : Nat → Nat → Nat → Int32} {c2 : Nat → Int64} {G2 : Nat → Nat → Int32} {g2 : Nat → Int64} {y : Int32} (hE : pE ns d 28 [pm_r 0 0, pm_i ((nI 3) + ((nI 2) * v1))] (mm x R Z Y o A c G g) (.inl (some (pm_i y)), (mm x2 R Z Y o2 A2 c2 G2 g2))) (k : pW ns d 29 21 [some (pm_r 0 0), some (pm_i v1)] [pm_i y] (mm x2 R Z Y o2 A2 c2 G2 g2) Q) : pW ns d 29 12 [some (pm_r 0 0), some (pm_i v1)] [] (mm x R Z Y o A c G g) Q := by
  refine pW_call (pc' := 18) (r := []) (L' := [some (pm_r 0 0), some (pm_i v1)]) 7 (fun call n => ?_) hE k
  exact Eq.trans (b := pm_g (mm x R Z Y o A c G g) 0 0 (pm_cl call 29 (pm_go call ns d 29 n) 18 28 [pm_r 0 0, pm_i ((nI 3) + ((nI 2) * v1))] [] [some (pm_r 0 0), some (pm_i v1)] (mm x R Z Y o A c G g))) rfl (g_ok (f := 0) (by decide) rfl)
set_option maxRecDepth 20000 in
theorem b29_24 (hR : RS R) {u0 : Option pm_V} {u1 : Option pm_V}   (k : Q (.inl (some (pm_i (nI 1))), (mm x R Z Y o A c G g))) : pW ns d 29 24 [u0, u1] [] (mm x R Z Y o A c G g) Q := by
  refine pW_ret 3 (fun call n => ?_) k
  exact Eq.trans (b := pm_bo (nI 1) (some (.inl (some (pm_i (nI 1))), (mm x R Z Y o A c G g)))) rfl (bo_ok (by decide))
set_option maxRecDepth 20000 in
theorem b29_21 (hR : RS R) {u0 : Option pm_V} {u1 : Option pm_V} {vs0 : Int32}   (k1 : vs0 = 0 → pW ns d 29 28 [u0, u1] [] (mm x R Z Y o A c G g) Q) (k2 : ¬ (vs0 = 0) → pW ns d 29 24 [u0, u1] [] (mm x R Z Y o A c G g) Q) : pW ns d 29 21 [u0, u1] [pm_i vs0] (mm x R Z Y o A c G g) Q := by
  exact pW_if 1 (c := vs0 = 0) (fun call n => rfl) k1 k2
set_option maxRecDepth 20000 in
theorem b29_28 (hR : RS R) {u0 : Option pm_V} {u1 : Option pm_V}   (k : Q (.inl (some (pm_i (nI 0))), (mm x R Z Y o A c G g))) : pW ns d 29 28 [u0, u1] [] (mm x R Z Y o A c G g) Q := by
  refine pW_ret 2 (fun call n => ?_) k
  exact Eq.trans (b := pm_bo (nI 0) (some (.inl (some (pm_i (nI 0))), (mm x R Z Y o A c G g)))) rfl (bo_ok (by decide))
set_option maxRecDepth 20000 in
theorem t29_9 (hR : RS R) {v1 : Int32} {vs0 : Int32}  (k1 : (vs0 = 0) → pW ns d 29 12 [some (pm_r 0 0), some (pm_i v1)] [] (mm x R Z Y o A c G g) Q) (k2 : (¬ (vs0 = 0)) → Q (.inl (some (pm_i (nI 1))), (mm x R Z Y o A c G g))) : pW ns d 29 9 [some (pm_r 0 0), some (pm_i v1)] [pm_i vs0] (mm x R Z Y o A c G g) Q := by
  refine b29_9 hR  (fun h1 => ?_) (fun h1 => ?_)
  · skip
    exact (k1 h1)
  · skip
    exact b29_24 hR   (k2 h1)
set_option maxRecDepth 20000 in
theorem t29_21 (hR : RS R) {u0 : Option pm_V} {u1 : Option pm_V} {vs0 : Int32}  (k1 : (vs0 = 0) → Q (.inl (some (pm_i (nI 0))), (mm x R Z Y o A c G g))) (k2 : (¬ (vs0 = 0)) → Q (.inl (some (pm_i (nI 1))), (mm x R Z Y o A c G g))) : pW ns d 29 21 [u0, u1] [pm_i vs0] (mm x R Z Y o A c G g) Q := by
  refine b29_21 hR  (fun h1 => ?_) (fun h1 => ?_)
  · skip
    exact b29_28 hR   (k1 h1)
  · skip
    exact b29_24 hR   (k2 h1)
/-! 30 JobLayer.leastUnusedPipe -/
set_option maxRecDepth 20000 in
theorem b30_0 (hR : RS R) {u1 : Option pm_V}   (k : pW ns d 30 2 [some (pm_r 0 0), some (pm_i (nI 0))] [] (mm x R Z Y o A c G g) Q) : pW ns d 30 0 [some (pm_r 0 0), u1] [] (mm x R Z Y o A c G g) Q := by
  exact pW_eq 2 (fun call n => rfl) k
set_option maxRecDepth 20000 in
theorem b30_2 (hR : RS R) {v1 : Int32}   (k1 : nI 6 ≤ v1 → pW ns d 30 24 [some (pm_r 0 0), some (pm_i v1)] [] (mm x R Z Y o A c G g) Q) (k2 : ¬ (nI 6 ≤ v1) → pW ns d 30 8 [some (pm_r 0 0), some (pm_i v1)] [] (mm x R Z Y o A c G g) Q) : pW ns d 30 2 [some (pm_r 0 0), some (pm_i v1)] [] (mm x R Z Y o A c G g) Q := by
  exact pW_if 3 (c := nI 6 ≤ v1) (fun call n => rfl) k1 k2
set_option maxRecDepth 20000 in
theorem b30_24 (hR : RS R) {u0 : Option pm_V} {u1 : Option pm_V}   (k : Q (.inl (some (pm_i (nI 6))), (mm x R Z Y o A c G g))) : pW ns d 30 24 [u0, u1] [] (mm x R Z Y o A c G g) Q := by
  refine pW_ret 2 (fun call n => ?_) k
  rfl
set_option maxRecDepth 20000 in
theorem b30_8 (hR : RS R) {v1 : Int32}  {x2 : Nat} {o2 : Int64} {A2 : Nat → Nat → Nat → Int32} {c2 : Nat → Int64} {G2 : Nat → Nat → Int32} {g2 : Nat → Int64} {y : Int32} (hE : pE ns d 29 [pm_r 0 0, pm_i v1] (mm x R Z Y o A c G g) (.inl (some (pm_i y)), (mm x2 R Z Y o2 A2 c2 G2 g2))) (k : pW ns d 30 13 [some (pm_r 0 0), some (pm_i v1)] [pm_i y] (mm x2 R Z Y o2 A2 c2 G2 g2) Q) : pW ns d 30 8 [some (pm_r 0 0), some (pm_i v1)] [] (mm x R Z Y o A c G g) Q := by
  refine pW_call (pc' := 10) (r := []) (L' := [some (pm_r 0 0), some (pm_i v1)]) 3 (fun call n => ?_) hE k
  exact Eq.trans (b := pm_g (mm x R Z Y o A c G g) 0 0 (pm_cl call 30 (pm_go call ns d 30 n) 10 29 [pm_r 0 0, pm_i v1] [] [some (pm_r 0 0), some (pm_i v1)] (mm x R Z Y o A c G g))) rfl (g_ok (f := 0) (by decide) rfl)
set_option maxRecDepth 20000 in
theorem b30_13 (hR : RS R) {v1 : Int32} {vs0 : Int32}   (k1 : vs0 = 0 → pW ns d 30 16 [some (pm_r 0 0), some (pm_i v1)] [] (mm x R Z Y o A c G g) Q) (k2 : ¬ (vs0 = 0) → pW ns d 30 18 [some (pm_r 0 0), some (pm_i v1)] [] (mm x R Z Y o A c G g) Q) : pW ns d 30 13 [some (pm_r 0 0), some (pm_i v1)] [pm_i vs0] (mm x R Z Y o A c G g) Q := by
  exact pW_if 1 (c := vs0 = 0) (fun call n => rfl) k1 k2
set_option maxRecDepth 20000 in
theorem b30_16 (hR : RS R) {u0 : Option pm_V} {v1 : Int32}   (k : Q (.inl (some (pm_i v1)), (mm x R Z Y o A c G g))) : pW ns d 30 16 [u0, some (pm_i v1)] [] (mm x R Z Y o A c G g) Q := by
  refine pW_ret 2 (fun call n => ?_) k
  rfl
set_option maxRecDepth 20000 in
theorem b30_18 (hR : RS R) {v1 : Int32}   (k : pW ns d 30 2 [some (pm_r 0 0), some (pm_i (v1 + (nI 1)))] [] (mm x R Z Y o A c G g) Q) : pW ns d 30 18 [some (pm_r 0 0), some (pm_i v1)] [] (mm x R Z Y o A c G g) Q := by
  exact pW_eq 2 (fun call n => rfl) k
set_option maxRecDepth 20000 in
theorem t30_2 (hR : RS R) {v1 : Int32}  (k1 : (nI 6 ≤ v1) → Q (.inl (some (pm_i (nI 6))), (mm x R Z Y o A c G g))) (k2 : (¬ (nI 6 ≤ v1)) → pW ns d 30 8 [some (pm_r 0 0), some (pm_i v1)] [] (mm x R Z Y o A c G g) Q) : pW ns d 30 2 [some (pm_r 0 0), some (pm_i v1)] [] (mm x R Z Y o A c G g) Q := by
  refine b30_2 hR  (fun h1 => ?_) (fun h1 => ?_)
  · skip
    exact b30_24 hR   (k1 h1)
  · skip
    exact (k2 h1)
set_option maxRecDepth 20000 in
theorem t30_13 (hR : RS R) {v1 : Int32} {vs0 : Int32}  (k1 : (vs0 = 0) → Q (.inl (some (pm_i v1)), (mm x R Z Y o A c G g))) (k2 : (¬ (vs0 = 0)) → pW ns d 30 2 [some (pm_r 0 0), some (pm_i (v1 + (nI 1)))] [] (mm x R Z Y o A c G g) Q) : pW ns d 30 13 [some (pm_r 0 0), some (pm_i v1)] [pm_i vs0] (mm x R Z Y o A c G g) Q := by
  refine b30_13 hR  (fun h1 => ?_) (fun h1 => ?_)
  · skip
    exact b30_16 hR   (k1 h1)
  · skip
    exact b30_18 hR   (k2 h1)
/-! 31 JobLayer.countPipes -/
set_option maxRecDepth 20000 in
theorem b31_0 (hR : RS R) {u1 : Option pm_V} {u2 : Option pm_V}   (k : pW ns d 31 4 [some (pm_r 0 0), some (pm_i (nI 0)), some (pm_i (nI 0))] [] (mm x R Z Y o A c G g) Q) : pW ns d 31 0 [some (pm_r 0 0), u1, u2] [] (mm x R Z Y o A c G g) Q := by
  exact pW_eq 4 (fun call n => rfl) k
set_option maxRecDepth 20000 in
theorem b31_4 (hR : RS R) {v1 : Int32} {v2 : Int32}   (k1 : nI 6 ≤ v2 → pW ns d 31 27 [some (pm_r 0 0), some (pm_i v1), some (pm_i v2)] [] (mm x R Z Y o A c G g) Q) (k2 : ¬ (nI 6 ≤ v2) → pW ns d 31 10 [some (pm_r 0 0), some (pm_i v1), some (pm_i v2)] [] (mm x R Z Y o A c G g) Q) : pW ns d 31 4 [some (pm_r 0 0), some (pm_i v1), some (pm_i v2)] [] (mm x R Z Y o A c G g) Q := by
  exact pW_if 3 (c := nI 6 ≤ v2) (fun call n => rfl) k1 k2
set_option maxRecDepth 20000 in
theorem b31_27 (hR : RS R) {u0 : Option pm_V} {v1 : Int32} {u2 : Option pm_V}   (k : Q (.inl (some (pm_i v1)), (mm x R Z Y o A c G g))) : pW ns d 31 27 [u0, some (pm_i v1), u2] [] (mm x R Z Y o A c G g) Q := by
  refine pW_ret 2 (fun call n => ?_) k
  rfl
set_option maxRecDepth 20000 in
theorem b31_10 (hR : RS R) {v1 : Int32} {v2 : Int32}  {x2 : Nat} {o2 : Int64} {A2 : Nat → Nat → Nat → Int32} {c2 : Nat → Int64} {G2 : Nat → Nat → Int32} {g2 : Nat → Int64} {y : Int32} (hE : pE ns d 29 [pm_r 0 0, pm_i v2] (mm x R Z Y o A c G g) (.inl (some (pm_i y)), (mm x2 R Z Y o2 A2 c2 G2 g2))) (k : pW ns d 31 15 [some (pm_r 0 0), some (pm_i v1), some (pm_i v2)] [pm_i y] (mm x2 R Z Y o2 A2 c2 G2 g2) Q) : pW ns d 31 10 [some (pm_r 0 0), some (pm_i v1), some (pm_i v2)] [] (mm x R Z Y o A c G g) Q := by
  refine pW_call (pc' := 12) (r := []) (L' := [some (pm_r 0 0), some (pm_i v1), some (pm_i v2)]) 3 (fun call n => ?_) hE k
  exact Eq.trans (b := pm_g (mm x R Z Y o A c G g) 0 0 (pm_cl call 31 (pm_go call ns d 31 n) 12 29 [pm_r 0 0, pm_i v2] [] [some (pm_r 0 0), some (pm_i v1), some (pm_i v2)] (mm x R Z Y o A c G g))) rfl (g_ok (f := 0) (by decide) rfl)
set_option maxRecDepth 20000 in
theorem b31_15 (hR : RS R) {v1 : Int32} {v2 : Int32} {vs0 : Int32}   (k1 : vs0 = 0 → pW ns d 31 21 [some (pm_r 0 0), some (pm_i v1), some (pm_i v2)] [] (mm x R Z Y o A c G g) Q) (k2 : ¬ (vs0 = 0) → pW ns d 31 18 [some (pm_r 0 0), some (pm_i v1), some (pm_i v2)] [] (mm x R Z Y o A c G g) Q) : pW ns d 31 15 [some (pm_r 0 0), some (pm_i v1), some (pm_i v2)] [pm_i vs0] (mm x R Z Y o A c G g) Q := by
  exact pW_if 1 (c := vs0 = 0) (fun call n => rfl) k1 k2
set_option maxRecDepth 20000 in
theorem b31_21 (hR : RS R) {v1 : Int32} {v2 : Int32}   (k : pW ns d 31 4 [some (pm_r 0 0), some (pm_i v1), some (pm_i (v2 + (nI 1)))] [] (mm x R Z Y o A c G g) Q) : pW ns d 31 21 [some (pm_r 0 0), some (pm_i v1), some (pm_i v2)] [] (mm x R Z Y o A c G g) Q := by
  exact pW_eq 2 (fun call n => rfl) k
set_option maxRecDepth 20000 in
theorem b31_18 (hR : RS R) {v1 : Int32} {v2 : Int32}   (k : pW ns d 31 4 [some (pm_r 0 0), some (pm_i (v1 + (nI 1))), some (pm_i (v2 + (nI 1)))] [] (mm x R Z Y o A c G g) Q) : pW ns d 31 18 [some (pm_r 0 0), some (pm_i v1), some (pm_i v2)] [] (mm x R Z Y o A c G g) Q := by
  exact pW_eq 3 (fun call n => rfl) k
set_option maxRecDepth 20000 in
theorem t31_4 (hR : RS R) {v1 : Int32} {v2 : Int32}  (k1 : (nI 6 ≤ v2) → Q (.inl (some (pm_i v1)), (mm x R Z Y o A c G g))) (k2 : (¬ (nI 6 ≤ v2)) → pW ns d 31 10 [some (pm_r 0 0), some (pm_i v1), some (pm_i v2)] [] (mm x R Z Y o A c G g) Q) : pW ns d 31 4 [some (pm_r 0 0), some (pm_i v1), some (pm_i v2)] [] (mm x R Z Y o A c G g) Q := by
  refine b31_4 hR  (fun h1 => ?_) (fun h1 => ?_)
  · skip
    exact b31_27 hR   (k1 h1)
  · skip
    exact (k2 h1)
set_option maxRecDepth 20000 in
theorem t31_15 (hR : RS R) {v1 : Int32} {v2 : Int32} {vs0 : Int32}  (k1 : (vs0 = 0) → pW ns d 31 4 [some (pm_r 0 0), some (pm_i v1), some (pm_i (v2 + (nI 1)))] [] (mm x R Z Y o A c G g) Q) (k2 : (¬ (vs0 = 0)) → pW ns d 31 4 [some (pm_r 0 0), some (pm_i (v1 + (nI 1))), some (pm_i (v2 + (nI 1)))] [] (mm x R Z Y o A c G g) Q) : pW ns d 31 15 [some (pm_r 0 0), some (pm_i v1), some (pm_i v2)] [pm_i vs0] (mm x R Z Y o A c G g) Q := by
  refine b31_15 hR  (fun h1 => ?_) (fun h1 => ?_)
  · skip
    exact b31_21 hR   (k1 h1)
  · skip
    exact b31_18 hR   (k2 h1)
/-! 32 JobLayer.sendToGroup -/
set_option maxRecDepth 20000 in
theorem b32_0 (hR : RS R) {v1 : Int32} {v2 : Int32} {u3 : Option pm_V} {u4 : Option pm_V}   (k : pW ns d 32 5 [some (pm_r 0 0), some (pm_i v1), some (pm_i v2), some (pm_i (nI 0)), some (pm_i (nI 0))] [] (mm x R Z Y o A c G g) Q) : pW ns d 32 0 [some (pm_r 0 0), some (pm_i v1), some (pm_i v2), u3, u4] [] (mm x R Z Y o A c G g) Q := by
  exact pW_eq 4 (fun call n => rfl) k
set_option maxRecDepth 20000 in
theorem b32_5 (hR : RS R) {v1 : Int32} {v2 : Int32} {v3 : Int32} {v4 : Int32}   (k1 : nI 8 ≤ v4 → pW ns d 32 49 [some (pm_r 0 0), some (pm_i v1), some (pm_i v2), some (pm_i v3), some (pm_i v4)] [] (mm x R Z Y o A c G g) Q) (k2 : ¬ (nI 8 ≤ v4) → pW ns d 32 12 [some (pm_r 0 0), some (pm_i v1), some (pm_i v2), some (pm_i v3), some (pm_i v4)] [] (mm x R Z Y o A c G g) Q) : pW ns d 32 5 [some (pm_r 0 0), some (pm_i v1), some (pm_i v2), some (pm_i v3), some (pm_i v4)] [] (mm x R Z Y o A c G g) Q := by
  exact pW_if 3 (c := nI 8 ≤ v4) (fun call n => rfl) k1 k2
set_option maxRecDepth 20000 in
theorem b32_49 (hR : RS R) {u0 : Option pm_V} {u1 : Option pm_V} {u2 : Option pm_V} {v3 : Int32} {u4 : Option pm_V} (z1 : v3 = 0 ∨ v3 = 1)  (k : Q (.inl (some (pm_i v3)), (mm x R Z Y o A c G g))) : pW ns d 32 49 [u0, u1, u2, some (pm_i v3), u4] [] (mm x R Z Y o A c G g) Q := by
  refine pW_ret 2 (fun call n => ?_) k
  exact Eq.trans (b := pm_bo (v3) (some (.inl (some (pm_i v3)), (mm x R Z Y o A c G g)))) rfl (bo_ok z1)
set_option maxRecDepth 20000 in
theorem b32_12 (hR : RS R) {v1 : Int32} {v2 : Int32} {v3 : Int32} {v4 : Int32} {j1 : Nat} (e1 : v4 = nI j1) (l1 : j1 < 8)  (k1 : A 8 j1 8 = v1 → pW ns d 32 26 [some (pm_r 0 0), some (pm_i v1), some (pm_i v2), some (pm_i v3), some (pm_i v4)] [] (mm x R Z Y o A c G g) Q) (k2 : ¬ (A 8 j1 8 = v1) → pW ns d 32 43 [some (pm_r 0 0), some (pm_i v1), some (pm_i v2), some (pm_i v3), some (pm_i v4)] [] (mm x R Z Y o A c G g) Q) : pW ns d 32 12 [some (pm_r 0 0), some (pm_i v1), some (pm_i v2), some (pm_i v3), some (pm_i v4)] [] (mm x R Z Y o A c G g) Q := by
  refine pW_eq 2 (pc' := 16) (L' := [some (pm_r 0 0), some (pm_i v1), some (pm_i v2), some (pm_i v3), some (pm_i v4)]) (S' := [pm_r 1 0]) (M' := (mm x R Z Y o A c G g)) (fun call n => ?_) ?_
  · refine Eq.trans (b := pm_g (mm x R Z Y o A c G g) 0 0 (pm_go call ns d 32 n 16 [some (pm_r 0 0), some (pm_i v1), some (pm_i v2), some (pm_i v3), some (pm_i v4)] [pm_a (R 0 0 0)] (mm x R Z Y o A c G g))) rfl ?_
    refine (g_ok (f := 0) (by decide) rfl).trans ?_
    exact (congrArg (fun z => pm_go call ns d 32 n 16 [some (pm_r 0 0), some (pm_i v1), some (pm_i v2), some (pm_i v3), some (pm_i v4)] [pm_a z] (mm x R Z Y o A c G g)) (rs_0_0 hR))
  refine pW_eq 2 (pc' := 19) (L' := [some (pm_r 0 0), some (pm_i v1), some (pm_i v2), some (pm_i v3), some (pm_i v4)]) (S' := [pm_r 8 j1]) (M' := (mm x R Z Y o A c G g)) (fun call n => ?_) ?_
  · refine Eq.trans (b := pm_g (mm x R Z Y o A c G g) 1 0 (pm_ix (v4) 8 (fun jx => pm_go call ns d 32 n 19 [some (pm_r 0 0), some (pm_i v1), some (pm_i v2), some (pm_i v3), some (pm_i v4)] [pm_a (R 1 0 jx)] (mm x R Z Y o A c G g)))) rfl ?_
    refine (g_ok (f := 1) (by decide) rfl).trans ?_
    refine (ix_ok (j := j1) e1 l1 (by decide)).trans ?_
    exact (congrArg (fun z => pm_go call ns d 32 n 19 [some (pm_r 0 0), some (pm_i v1), some (pm_i v2), some (pm_i v3), some (pm_i v4)] [pm_a z] (mm x R Z Y o A c G g)) (rs_1 hR (k := j1) l1))
  refine pW_eq 1 (pc' := 22) (L' := [some (pm_r 0 0), some (pm_i v1), some (pm_i v2), some (pm_i v3), some (pm_i v4)]) (S' := [pm_i (A 8 j1 8)]) (M' := (mm x R Z Y o A c G g)) (fun call n => ?_) ?_
  · refine Eq.trans (b := pm_g (mm x R Z Y o A c G g) 8 j1 (pm_go call ns d 32 n 22 [some (pm_r 0 0), some (pm_i v1), some (pm_i v2), some (pm_i v3), some (pm_i v4)] [pm_i (A 8 j1 8)] (mm x R Z Y o A c G g))) rfl ?_
    refine (g_ok (f := 8) l1 rfl).trans ?_
    rfl
  exact pW_if 2 (c := A 8 j1 8 = v1) (fun call n => rfl) k1 k2
set_option maxRecDepth 20000 in
theorem b32_26 (hR : RS R) {v1 : Int32} {v2 : Int32} {v3 : Int32} {v4 : Int32} {j1 : Nat} (e1 : v4 = nI j1) (l1 : j1 < 8) {x2 : Nat} {o2 : Int64} {A2 : Nat → Nat → Nat → Int32} {c2 : Nat → Int64} {G2 : Nat → Nat → Int32} {g2 : Nat → Int64} {y : Int32} (hE : pE ns d 33 [pm_r 0 0, pm_r 8 j1, pm_i v2] (mm x R Z Y o A c G g) (.inl (some (pm_i y)), (mm x2 R Z Y o2 A2 c2 G2 g2))) (k : pW ns d 32 38 [some (pm_r 0 0), some (pm_i v1), some (pm_i v2), some (pm_i v3), some (pm_i v4)] [pm_i y] (mm x2 R Z Y o2 A2 c2 G2 g2) Q) : pW ns d 32 26 [some (pm_r 0 0), some (pm_i v1), some (pm_i v2), some (pm_i v3), some (pm_i v4)] [] (mm x R Z Y o A c G g) Q := by
  refine pW_eq 3 (pc' := 31) (L' := [some (pm_r 0 0), some (pm_i v1), some (pm_i v2), some (pm_i v3), some (pm_i v4)]) (S' := [pm_r 1 0, pm_r 0 0]) (M' := (mm x R Z Y o A c G g)) (fun call n => ?_) ?_
  · refine Eq.trans (b := pm_g (mm x R Z Y o A c G g) 0 0 (pm_go call ns d 32 n 31 [some (pm_r 0 0), some (pm_i v1), some (pm_i v2), some (pm_i v3), some (pm_i v4)] [pm_a (R 0 0 0), pm_r 0 0] (mm x R Z Y o A c G g))) rfl ?_
    refine (g_ok (f := 0) (by decide) rfl).trans ?_
    exact (congrArg (fun z => pm_go call ns d 32 n 31 [some (pm_r 0 0), some (pm_i v1), some (pm_i v2), some (pm_i v3), some (pm_i v4)] [pm_a z, pm_r 0 0] (mm x R Z Y o A c G g)) (rs_0_0 hR))
  refine pW_eq 2 (pc' := 34) (L' := [some (pm_r 0 0), some (pm_i v1), some (pm_i v2), some (pm_i v3), some (pm_i v4)]) (S' := [pm_r 8 j1, pm_r 0 0]) (M' := (mm x R Z Y o A c G g)) (fun call n => ?_) ?_
  · refine Eq.trans (b := pm_g (mm x R Z Y o A c G g) 1 0 (pm_ix (v4) 8 (fun jx => pm_go call ns d 32 n 34 [some (pm_r 0 0), some (pm_i v1), some (pm_i v2), some (pm_i v3), some (pm_i v4)] [pm_a (R 1 0 jx), pm_r 0 0] (mm x R Z Y o A c G g)))) rfl ?_
    refine (g_ok (f := 1) (by decide) rfl).trans ?_
    refine (ix_ok (j := j1) e1 l1 (by decide)).trans ?_
    exact (congrArg (fun z => pm_go call ns d 32 n 34 [some (pm_r 0 0), some (pm_i v1), some (pm_i v2), some (pm_i v3), some (pm_i v4)] [pm_a z, pm_r 0 0] (mm x R Z Y o A c G g)) (rs_1 hR (k := j1) l1))
  refine pW_call (pc' := 35) (r := []) (L' := [some (pm_r 0 0), some (pm_i v1), some (pm_i v2), some (pm_i v3), some (pm_i v4)]) 2 (fun call n => ?_) hE k
  exact Eq.trans (b := pm_g (mm x R Z Y o A c G g) 0 0 (pm_cl call 32 (pm_go call ns d 32 n) 35 33 [pm_r 0 0, pm_r 8 j1, pm_i v2] [] [some (pm_r 0 0), some (pm_i v1), some (pm_i v2), some (pm_i v3), some (pm_i v4)] (mm x R Z Y o A c G g))) rfl (g_ok (f := 0) (by decide) rfl)
set_option maxRecDepth 20000 in
theorem b32_43 (hR : RS R) {v1 : Int32} {v2 : Int32} {v3 : Int32} {v4 : Int32}   (k : pW ns d 32 5 [some (pm_r 0 0), some (pm_i v1), some (pm_i v2), some (pm_i v3), some (pm_i (v4 + (nI 1)))] [] (mm x R Z Y o A c G g) Q) : pW ns d 32 43 [some (pm_r 0 0), some (pm_i v1), some (pm_i v2), some (pm_i v3), some (pm_i v4)] [] (mm x R Z Y o A c G g) Q := by
  exact pW_eq 2 (fun call n => rfl) k
set_option maxRecDepth 20000 in
theorem b32_38 (hR : RS R) {v1 : Int32} {v2 : Int32} {v3 : Int32} {v4 : Int32} {vs0 : Int32}   (k1 : vs0 = 0 → pW ns d 32 43 [some (pm_r 0 0), some (pm_i v1), some (pm_i v2), some (pm_i v3), some (pm_i v4)] [] (mm x R Z Y o A c G g) Q) (k2 : ¬ (vs0 = 0) → pW ns d 32 41 [some (pm_r 0 0), some (pm_i v1), some (pm_i v2), some (pm_i v3), some (pm_i v4)] [] (mm x R Z Y o A c G g) Q) : pW ns d 32 38 [some (pm_r 0 0), some (pm_i v1), some (pm_i v2), some (pm_i v3), some (pm_i v4)] [pm_i vs0] (mm x R Z Y o A c G g) Q := by
  exact pW_if 1 (c := vs0 = 0) (fun call n => rfl) k1 k2
set_option maxRecDepth 20000 in
theorem b32_41 (hR : RS R) {v1 : Int32} {v2 : Int32} {u3 : Option pm_V} {v4 : Int32}   (k : pW ns d 32 5 [some (pm_r 0 0), some (pm_i v1), some (pm_i v2), some (pm_i (nI 1)), some (pm_i (v4 + (nI 1)))] [] (mm x R Z Y o A c G g) Q) : pW ns d 32 41 [some (pm_r 0 0), some (pm_i v1), some (pm_i v2), u3, some (pm_i v4)] [] (mm x R Z Y o A c G g) Q := by
  exact pW_eq 4 (fun call n => rfl) k
set_option maxRecDepth 20000 in
theorem t32_5 (hR : RS R) {v1 : Int32} {v2 : Int32} {v3 : Int32} {v4 : Int32}  (k1 : (nI 8 ≤ v4) → pW ns d 32 49 [some (pm_r 0 0), some (pm_i v1), some (pm_i v2), some (pm_i v3), some (pm_i v4)] [] (mm x R Z Y o A c G g) Q) (k2 : (¬ (nI 8 ≤ v4)) → pW ns d 32 12 [some (pm_r 0 0), some (pm_i v1), some (pm_i v2), some (pm_i v3), some (pm_i v4)] [] (mm x R Z Y o A c G g) Q) : pW ns d 32 5 [some (pm_r 0 0), some (pm_i v1), some (pm_i v2), some (pm_i v3), some (pm_i v4)] [] (mm x R Z Y o A c G g) Q := by
  refine b32_5 hR  (fun h1 => ?_) (fun h1 => ?_)
  · skip
    exact (k1 h1)
  · skip
    exact (k2 h1)
set_option maxRecDepth 20000 in
theorem t32_12 (hR : RS R) {v1 : Int32} {v2 : Int32} {v3 : Int32} {v4 : Int32} {j1 : Nat} (e1 : v4 = nI j1) (l1 : j1 < 8) (k1 : (A 8 j1 8 = v1) → pW ns d 32 26 [some (pm_r 0 0), some (pm_i v1), some (pm_i v2), some (pm_i v3), some (pm_i v4)] [] (mm x R Z Y o A c G g) Q) (k2 : (¬ (A 8 j1 8 = v1)) → pW ns d 32 5 [some (pm_r 0 0), some (pm_i v1), some (pm_i v2), some (pm_i v3), some (pm_i (v4 + (nI 1)))] [] (mm x R Z Y o A c G g) Q) : pW ns d 32 12 [some (pm_r 0 0), some (pm_i v1), some (pm_i v2), some (pm_i v3), some (pm_i v4)] [] (mm x R Z Y o A c G g) Q := by
  refine b32_12 hR e1 l1 (fun h1 => ?_) (fun h1 => ?_)
  · skip
    exact (k1 h1)
  · skip
    exact b32_43 hR   (k2 h1)
set_option maxRecDepth 20000 in
theorem t32_38 (hR : RS R) {v1 : Int32} {v2 : Int32} {v3 : Int32} {v4 : Int32} {vs0 : Int32}  (k1 : (vs0 = 0) → pW ns d 32 5 [some (pm_r 0 0), some (pm_i v1), some (pm_i v2), some (pm_i v3), some (pm_i (v4 + (nI 1)))] [] (mm x R Z Y o A c G g) Q) (k2 : (¬ (vs0 = 0)) → pW ns d 32 5 [some (pm_r 0 0), some (pm_i v1), some (pm_i v2), some (pm_i (nI 1)), some (pm_i (v4 + (nI 1)))] [] (mm x R Z Y o A c G g) Q) : pW ns d 32 38 [some (pm_r 0 0), some (pm_i v1), some (pm_i v2), some (pm_i v3), some (pm_i v4)] [pm_i vs0] (mm x R Z Y o A c G g) Q := by
  refine b32_38 hR  (fun h1 => ?_) (fun h1 => ?_)
  · skip
    exact b32_43 hR   (k1 h1)
  · skip
    exact b32_41 hR   (k2 h1)
/-! 33 JobLayer.send -/
set_option maxRecDepth 20000 in
theorem b33_0 (hR : RS R) {i1 : Nat} {v2 : Int32} {u3 : Option pm_V} {u4 : Option pm_V} {u5 : Option pm_V} (q1 : i1 < 8) {x2 : Nat} {o2 : Int64} {A2 : Nat → Nat → Nat → Int32} {c2 : Nat → Int64} {G2 : Nat → Nat → Int32} {g2 : Nat → Int64} {y : Int32} (hE : pE ns d 112 [pm_r 8 i1] (mm x R Z Y o A c G g) (.inl (some (pm_i y)), (mm x2 R Z Y o2 A2 c2 G2 g2))) (k : pW ns d 33 8 [some (pm_r 0 0), some (pm_r 8 i1), some (pm_i v2), u3, u4, u5] [pm_i y] (mm x2 R Z Y o2 A2 c2 G2 g2) Q) : pW ns d 33 0 [some (pm_r 0 0), some (pm_r 8 i1), some (pm_i v2), u3, u4, u5] [] (mm x R Z Y o A c G g) Q := by
  refine pW_call (pc' := 5) (r := []) (L' := [some (pm_r 0 0), some (pm_r 8 i1), some (pm_i v2), u3, u4, u5]) 4 (fun call n => ?_) hE k
  exact Eq.trans (b := pm_g (mm x R Z Y o A c G g) 8 i1 (pm_cl call 33 (pm_go call ns d 33 n) 5 112 [pm_r 8 i1] [] [some (pm_r 0 0), some (pm_r 8 i1), some (pm_i v2), u3, u4, u5] (mm x R Z Y o A c G g))) rfl (g_ok (f := 8) q1 rfl)
set_option maxRecDepth 20000 in
theorem b33_0a (hR : RS R) {v2 : Int32} {u3 : Option pm_V} {u4 : Option pm_V} {u5 : Option pm_V}   (k : Q (.inl (some (pm_i (nI 0))), (mm x R Z Y o A c G g))) : pW ns d 33 0 [some (pm_r 0 0), some (pm_a none), some (pm_i v2), u3, u4, u5] [] (mm x R Z Y o A c G g) Q := by
  refine pW_ret 4 (fun call n => ?_) k
  exact Eq.trans (b := pm_bo (nI 0) (some (.inl (some (pm_i (nI 0))), (mm x R Z Y o A c G g)))) rfl (bo_ok (by decide))
set_option maxRecDepth 20000 in
theorem b33_8 (hR : RS R) {i1 : Nat} {v2 : Int32} {u3 : Option pm_V} {u4 : Option pm_V} {u5 : Option pm_V} {vs0 : Int32} (q1 : i1 < 8)  (k1 : vs0 = 0 → pW ns d 33 11 [some (pm_r 0 0), some (pm_r 8 i1), some (pm_i v2), u3, u4, u5] [] (mm x R Z Y o A c G g) Q) (k2 : ¬ (vs0 = 0) → pW ns d 33 13 [some (pm_r 0 0), some (pm_r 8 i1), some (pm_i v2), u3, u4, u5] [] (mm x R Z Y o A c G g) Q) : pW ns d 33 8 [some (pm_r 0 0), some (pm_r 8 i1), some (pm_i v2), u3, u4, u5] [pm_i vs0] (mm x R Z Y o A c G g) Q := by
  exact pW_if 1 (c := vs0 = 0) (fun call n => rfl) k1 k2
set_option maxRecDepth 20000 in
theorem b33_11 (hR : RS R) {u0 : Option pm_V} {u1 : Option pm_V} {u2 : Option pm_V} {u3 : Option pm_V} {u4 : Option pm_V} {u5 : Option pm_V}   (k : Q (.inl (some (pm_i (nI 0))), (mm x R Z Y o A c G g))) : pW ns d 33 11 [u0, u1, u2, u3, u4, u5] [] (mm x R Z Y o A c G g) Q := by
  refine pW_ret 2 (fun call n => ?_) k
  exact Eq.trans (b := pm_bo (nI 0) (some (.inl (some (pm_i (nI 0))), (mm x R Z Y o A c G g)))) rfl (bo_ok (by decide))
set_option maxRecDepth 20000 in
theorem b33_13 (hR : RS R) {i1 : Nat} {v2 : Int32} {u3 : Option pm_V} {u4 : Option pm_V} {u5 : Option pm_V} (q1 : i1 < 8)  (k : pW ns d 33 21 [some (pm_r 0 0), some (pm_r 8 i1), some (pm_i v2), some (pm_r 8 i1), some (pm_i v2), some (pm_i (nI 0))] [] (mm x R Z Y o A c G g) Q) : pW ns d 33 13 [some (pm_r 0 0), some (pm_r 8 i1), some (pm_i v2), u3, u4, u5] [] (mm x R Z Y o A c G g) Q := by
  exact pW_eq 6 (fun call n => rfl) k
set_option maxRecDepth 20000 in
theorem b33_21 (hR : RS R) {u1 : Option pm_V} {v2 : Int32} {i3 : Nat} {v4 : Int32} {v5 : Int32} (q3 : i3 < 8)  (k1 : nI 8 ≤ v5 → pW ns d 33 71 [some (pm_r 0 0), u1, some (pm_i v2), some (pm_r 8 i3), some (pm_i v4), some (pm_i v5)] [] (mm x R Z Y o A c G g) Q) (k2 : ¬ (nI 8 ≤ v5) → pW ns d 33 28 [some (pm_r 0 0), u1, some (pm_i v2), some (pm_r 8 i3), some (pm_i v4), some (pm_i v5)] [] (mm x R Z Y o A c G g) Q) : pW ns d 33 21 [some (pm_r 0 0), u1, some (pm_i v2), some (pm_r 8 i3), some (pm_i v4), some (pm_i v5)] [] (mm x R Z Y o A c G g) Q := by
  exact pW_if 3 (c := nI 8 ≤ v5) (fun call n => rfl) k1 k2
set_option maxRecDepth 20000 in
theorem b33_71 (hR : RS R) {u0 : Option pm_V} {u1 : Option pm_V} {u2 : Option pm_V} {u3 : Option pm_V} {u4 : Option pm_V} {u5 : Option pm_V}   (k : Q (.inl (some (pm_i (nI 1))), (mm x R Z Y o A c G g))) : pW ns d 33 71 [u0, u1, u2, u3, u4, u5] [] (mm x R Z Y o A c G g) Q := by
  refine pW_ret 2 (fun call n => ?_) k
  exact Eq.trans (b := pm_bo (nI 1) (some (.inl (some (pm_i (nI 1))), (mm x R Z Y o A c G g)))) rfl (bo_ok (by decide))
set_option maxRecDepth 20000 in
theorem b33_28 (hR : RS R) {u1 : Option pm_V} {v2 : Int32} {i3 : Nat} {v4 : Int32} {v5 : Int32} (q3 : i3 < 8) {x2 : Nat} {o2 : Int64} {A2 : Nat → Nat → Nat → Int32} {c2 : Nat → Int64} {G2 : Nat → Nat → Int32} {g2 : Nat → Int64}  (hE : pE ns d 118 [pm_r 8 i3, pm_i v4] (mm x R Z Y o A c G g) (.inl (none), (mm x2 R Z Y o2 A2 c2 G2 g2))) (k : pW ns d 33 38 [some (pm_r 0 0), u1, some (pm_i v2), some (pm_r 8 i3), some (pm_i v4), some (pm_i v5)] [] (mm x2 R Z Y o2 A2 c2 G2 g2) Q) : pW ns d 33 28 [some (pm_r 0 0), u1, some (pm_i v2), some (pm_r 8 i3), some (pm_i v4), some (pm_i v5)] [] (mm x R Z Y o A c G g) Q := by
  refine pW_call (pc' := 35) (r := []) (L' := [some (pm_r 0 0), u1, some (pm_i v2), some (pm_r 8 i3), some (pm_i v4), some (pm_i v5)]) 5 (fun call n => ?_) hE k
  exact Eq.trans (b := pm_g (mm x R Z Y o A c G g) 8 i3 (pm_cl call 33 (pm_go call ns d 33 n) 35 118 [pm_r 8 i3, pm_i v4] [] [some (pm_r 0 0), u1, some (pm_i v2), some (pm_r 8 i3), some (pm_i v4), some (pm_i v5)] (mm x R Z Y o A c G g))) rfl (g_ok (f := 8) q3 rfl)
set_option maxRecDepth 20000 in
theorem b33_38 (hR : RS R) {u1 : Option pm_V} {v2 : Int32} {i3 : Nat} {v4 : Int32} {v5 : Int32} (q3 : i3 < 8)  (k1 : v4 = nI 8 → pW ns d 33 45 [some (pm_r 0 0), u1, some (pm_i v2), some (pm_r 8 i3), some (pm_i v4), some (pm_i v5)] [] (mm x R Z Y o A c G g) Q) (k2 : ¬ (v4 = nI 8) → pW ns d 33 55 [some (pm_r 0 0), u1, some (pm_i v2), some (pm_r 8 i3), some (pm_i v4), some (pm_i v5)] [] (mm x R Z Y o A c G g) Q) : pW ns d 33 38 [some (pm_r 0 0), u1, some (pm_i v2), some (pm_r 8 i3), some (pm_i v4), some (pm_i v5)] [] (mm x R Z Y o A c G g) Q := by
  exact pW_if 3 (c := v4 = nI 8) (fun call n => rfl) k1 k2
set_option maxRecDepth 20000 in
theorem b33_45 (hR : RS R) {u1 : Option pm_V} {v2 : Int32} {i3 : Nat} {u4 : Option pm_V} {v5 : Int32} (q3 : i3 < 8) {x2 : Nat} {o2 : Int64} {A2 : Nat → Nat → Nat → Int32} {c2 : Nat → Int64} {G2 : Nat → Nat → Int32} {g2 : Nat → Int64} {j : Nat} (hE : pE ns d 35 [pm_r 0 0, pm_r 8 i3, pm_i (nI 72)] (mm x R Z Y o A c G g) (.inl (some (pm_r 8 j)), (mm x2 R Z Y o2 A2 c2 G2 g2))) (k : pW ns d 33 52 [some (pm_r 0 0), u1, some (pm_i v2), some (pm_r 8 i3), u4, some (pm_i v5)] [pm_r 8 j] (mm x2 R Z Y o2 A2 c2 G2 g2) Q) : pW ns d 33 45 [some (pm_r 0 0), u1, some (pm_i v2), some (pm_r 8 i3), u4, some (pm_i v5)] [] (mm x R Z Y o A c G g) Q := by
  refine pW_call (pc' := 49) (r := []) (L' := [some (pm_r 0 0), u1, some (pm_i v2), some (pm_r 8 i3), u4, some (pm_i v5)]) 4 (fun call n => ?_) hE k
  exact Eq.trans (b := pm_g (mm x R Z Y o A c G g) 0 0 (pm_cl call 33 (pm_go call ns d 33 n) 49 35 [pm_r 0 0, pm_r 8 i3, pm_i (nI 72)] [] [some (pm_r 0 0), u1, some (pm_i v2), some (pm_r 8 i3), u4, some (pm_i v5)] (mm x R Z Y o A c G g))) rfl (g_ok (f := 0) (by decide) rfl)
set_option maxRecDepth 20000 in
theorem b33_45n (hR : RS R) {u1 : Option pm_V} {v2 : Int32} {i3 : Nat} {u4 : Option pm_V} {v5 : Int32} (q3 : i3 < 8) {x2 : Nat} {o2 : Int64} {A2 : Nat → Nat → Nat → Int32} {c2 : Nat → Int64} {G2 : Nat → Nat → Int32} {g2 : Nat → Int64}  (hE : pE ns d 35 [pm_r 0 0, pm_r 8 i3, pm_i (nI 72)] (mm x R Z Y o A c G g) (.inl (some (pm_a none)), (mm x2 R Z Y o2 A2 c2 G2 g2))) (k : pW ns d 33 52 [some (pm_r 0 0), u1, some (pm_i v2), some (pm_r 8 i3), u4, some (pm_i v5)] [pm_a none] (mm x2 R Z Y o2 A2 c2 G2 g2) Q) : pW ns d 33 45 [some (pm_r 0 0), u1, some (pm_i v2), some (pm_r 8 i3), u4, some (pm_i v5)] [] (mm x R Z Y o A c G g) Q := by
  refine pW_call (pc' := 49) (r := []) (L' := [some (pm_r 0 0), u1, some (pm_i v2), some (pm_r 8 i3), u4, some (pm_i v5)]) 4 (fun call n => ?_) hE k
  exact Eq.trans (b := pm_g (mm x R Z Y o A c G g) 0 0 (pm_cl call 33 (pm_go call ns d 33 n) 49 35 [pm_r 0 0, pm_r 8 i3, pm_i (nI 72)] [] [some (pm_r 0 0), u1, some (pm_i v2), some (pm_r 8 i3), u4, some (pm_i v5)] (mm x R Z Y o A c G g))) rfl (g_ok (f := 0) (by decide) rfl)
set_option maxRecDepth 20000 in
theorem b33_55 (hR : RS R) {u1 : Option pm_V} {v2 : Int32} {i3 : Nat} {u4 : Option pm_V} {v5 : Int32} (q3 : i3 < 8) {x2 : Nat} {o2 : Int64} {A2 : Nat → Nat → Nat → Int32} {c2 : Nat → Int64} {G2 : Nat → Nat → Int32} {g2 : Nat → Int64} {j : Nat} (hE : pE ns d 34 [pm_r 0 0, pm_r 8 i3] (mm x R Z Y o A c G g) (.inl (some (pm_r 8 j)), (mm x2 R Z Y o2 A2 c2 G2 g2))) (k : pW ns d 33 60 [some (pm_r 0 0), u1, some (pm_i v2), some (pm_r 8 i3), u4, some (pm_i v5)] [pm_r 8 j] (mm x2 R Z Y o2 A2 c2 G2 g2) Q) : pW ns d 33 55 [some (pm_r 0 0), u1, some (pm_i v2), some (pm_r 8 i3), u4, some (pm_i v5)] [] (mm x R Z Y o A c G g) Q := by
  refine pW_call (pc' := 57) (r := []) (L' := [some (pm_r 0 0), u1, some (pm_i v2), some (pm_r 8 i3), u4, some (pm_i v5)]) 3 (fun call n => ?_) hE k
  exact Eq.trans (b := pm_g (mm x R Z Y o A c G g) 0 0 (pm_cl call 33 (pm_go call ns d 33 n) 57 34 [pm_r 0 0, pm_r 8 i3] [] [some (pm_r 0 0), u1, some (pm_i v2), some (pm_r 8 i3), u4, some (pm_i v5)] (mm x R Z Y o A c G g))) rfl (g_ok (f := 0) (by decide) rfl)
set_option maxRecDepth 20000 in
theorem b33_55n (hR : RS R) {u1 : Option pm_V} {v2 : Int32} {i3 : Nat} {u4 : Option pm_V} {v5 : Int32} (q3 : i3 < 8) {x2 : Nat} {o2 : Int64} {A2 : Nat → Nat → Nat → Int32} {c2 : Nat → Int64} {G2 : Nat → Nat → Int32} {g2 : Nat → Int64}  (hE : pE ns d 34 [pm_r 0 0, pm_r 8 i3] (mm x R Z Y o A c G g) (.inl (some (pm_a none)), (mm x2 R Z Y o2 A2 c2 G2 g2))) (k : pW ns d 33 60 [some (pm_r 0 0), u1, some (pm_i v2), some (pm_r 8 i3), u4, some (pm_i v5)] [pm_a none] (mm x2 R Z Y o2 A2 c2 G2 g2) Q) : pW ns d 33 55 [some (pm_r 0 0), u1, some (pm_i v2), some (pm_r 8 i3), u4, some (pm_i v5)] [] (mm x R Z Y o A c G g) Q := by
  refine pW_call (pc' := 57) (r := []) (L' := [some (pm_r 0 0), u1, some (pm_i v2), some (pm_r 8 i3), u4, some (pm_i v5)]) 3 (fun call n => ?_) hE k
  exact Eq.trans (b := pm_g (mm x R Z Y o A c G g) 0 0 (pm_cl call 33 (pm_go call ns d 33 n) 57 34 [pm_r 0 0, pm_r 8 i3] [] [some (pm_r 0 0), u1, some (pm_i v2), some (pm_r 8 i3), u4, some (pm_i v5)] (mm x R Z Y o A c G g))) rfl (g_ok (f := 0) (by decide) rfl)
set_option maxRecDepth 20000 in
theorem b33_52 (hR : RS R) {u1 : Option pm_V} {v2 : Int32} {u3 : Option pm_V} {u4 : Option pm_V} {v5 : Int32} {is0 : Nat} (qs0 : is0 < 8)  (k : pW ns d 33 21 [some (pm_r 0 0), u1, some (pm_i v2), some (pm_r 8 is0), some (pm_i (nI 7)), some (pm_i (v5 + (nI 1)))] [] (mm x R Z Y o A c G g) Q) : pW ns d 33 52 [some (pm_r 0 0), u1, some (pm_i v2), u3, u4, some (pm_i v5)] [pm_r 8 is0] (mm x R Z Y o A c G g) Q := by
  exact pW_eq 6 (fun call n => rfl) k
set_option maxRecDepth 20000 in
theorem b33_52a (hR : RS R) {u1 : Option pm_V} {v2 : Int32} {u3 : Option pm_V} {u4 : Option pm_V} {v5 : Int32}   (k : pW ns d 33 21 [some (pm_r 0 0), u1, some (pm_i v2), some (pm_a none), some (pm_i (nI 7)), some (pm_i (v5 + (nI 1)))] [] (mm x R Z Y o A c G g) Q) : pW ns d 33 52 [some (pm_r 0 0), u1, some (pm_i v2), u3, u4, some (pm_i v5)] [pm_a none] (mm x R Z Y o A c G g) Q := by
  exact pW_eq 6 (fun call n => rfl) k
set_option maxRecDepth 20000 in
theorem b33_60 (hR : RS R) {u1 : Option pm_V} {v2 : Int32} {u3 : Option pm_V} {u4 : Option pm_V} {v5 : Int32} {is0 : Nat} (qs0 : is0 < 8)  (k : pW ns d 33 21 [some (pm_r 0 0), u1, some (pm_i v2), some (pm_r 8 is0), some (pm_i (nI 7)), some (pm_i (v5 + (nI 1)))] [] (mm x R Z Y o A c G g) Q) : pW ns d 33 60 [some (pm_r 0 0), u1, some (pm_i v2), u3, u4, some (pm_i v5)] [pm_r 8 is0] (mm x R Z Y o A c G g) Q := by
  exact pW_eq 5 (fun call n => rfl) k
set_option maxRecDepth 20000 in
theorem b33_60a (hR : RS R) {u1 : Option pm_V} {v2 : Int32} {u3 : Option pm_V} {u4 : Option pm_V} {v5 : Int32}   (k : pW ns d 33 21 [some (pm_r 0 0), u1, some (pm_i v2), some (pm_a none), some (pm_i (nI 7)), some (pm_i (v5 + (nI 1)))] [] (mm x R Z Y o A c G g) Q) : pW ns d 33 60 [some (pm_r 0 0), u1, some (pm_i v2), u3, u4, some (pm_i v5)] [pm_a none] (mm x R Z Y o A c G g) Q := by
  exact pW_eq 5 (fun call n => rfl) k
set_option maxRecDepth 20000 in
theorem b33_21a (hR : RS R) {u1 : Option pm_V} {v2 : Int32} {v4 : Int32} {v5 : Int32}   (k1 : nI 8 ≤ v5 → pW ns d 33 71 [some (pm_r 0 0), u1, some (pm_i v2), some (pm_a none), some (pm_i v4), some (pm_i v5)] [] (mm x R Z Y o A c G g) Q) (k2 : ¬ (nI 8 ≤ v5) → pW ns d 33 28 [some (pm_r 0 0), u1, some (pm_i v2), some (pm_a none), some (pm_i v4), some (pm_i v5)] [] (mm x R Z Y o A c G g) Q) : pW ns d 33 21 [some (pm_r 0 0), u1, some (pm_i v2), some (pm_a none), some (pm_i v4), some (pm_i v5)] [] (mm x R Z Y o A c G g) Q := by
  exact pW_if 3 (c := nI 8 ≤ v5) (fun call n => rfl) k1 k2
set_option maxRecDepth 20000 in
theorem b33_28a (hR : RS R) {u1 : Option pm_V} {v2 : Int32} {v4 : Int32} {v5 : Int32}   (k : Q (.inl (some (pm_i (nI 1))), (mm x R Z Y o A c G g))) : pW ns d 33 28 [some (pm_r 0 0), u1, some (pm_i v2), some (pm_a none), some (pm_i v4), some (pm_i v5)] [] (mm x R Z Y o A c G g) Q := by
  refine pW_ret 4 (fun call n => ?_) k
  exact Eq.trans (b := pm_bo (nI 1) (some (.inl (some (pm_i (nI 1))), (mm x R Z Y o A c G g)))) rfl (bo_ok (by decide))
set_option maxRecDepth 20000 in
theorem t33_8 (hR : RS R) {i1 : Nat} {v2 : Int32} {u3 : Option pm_V} {u4 : Option pm_V} {u5 : Option pm_V} {vs0 : Int32} (q1 : i1 < 8) (k1 : (vs0 = 0) → Q (.inl (some (pm_i (nI 0))), (mm x R Z Y o A c G g))) (k2 : (¬ (vs0 = 0)) → pW ns d 33 21 [some (pm_r 0 0), some (pm_r 8 i1), some (pm_i v2), some (pm_r 8 i1), some (pm_i v2), some (pm_i (nI 0))] [] (mm x R Z Y o A c G g) Q) : pW ns d 33 8 [some (pm_r 0 0), some (pm_r 8 i1), some (pm_i v2), u3, u4, u5] [pm_i vs0] (mm x R Z Y o A c G g) Q := by
  refine b33_8 hR q1 (fun h1 => ?_) (fun h1 => ?_)
  · skip
    exact b33_11 hR   (k1 h1)
  · skip
    exact b33_13 hR q1  (k2 h1)
set_option maxRecDepth 20000 in
theorem t33_21 (hR : RS R) {u1 : Option pm_V} {v2 : Int32} {i3 : Nat} {v4 : Int32} {v5 : Int32} (q3 : i3 < 8) (k1 : (nI 8 ≤ v5) → Q (.inl (some (pm_i (nI 1))), (mm x R Z Y o A c G g))) (k2 : (¬ (nI 8 ≤ v5)) → pW ns d 33 28 [some (pm_r 0 0), u1, some (pm_i v2), some (pm_r 8 i3), some (pm_i v4), some (pm_i v5)] [] (mm x R Z Y o A c G g) Q) : pW ns d 33 21 [some (pm_r 0 0), u1, some (pm_i v2), some (pm_r 8 i3), some (pm_i v4), some (pm_i v5)] [] (mm x R Z Y o A c G g) Q := by
  refine b33_21 hR q3 (fun h1 => ?_) (fun h1 => ?_)
  · skip
    exact b33_71 hR   (k1 h1)
  · skip
    exact (k2 h1)
set_option maxRecDepth 20000 in
theorem t33_38 (hR : RS R) {u1 : Option pm_V} {v2 : Int32} {i3 : Nat} {v4 : Int32} {v5 : Int32} (q3 : i3 < 8) (k1 : (v4 = nI 8) → pW ns d 33 45 [some (pm_r 0 0), u1, some (pm_i v2), some (pm_r 8 i3), some (pm_i v4), some (pm_i v5)] [] (mm x R Z Y o A c G g) Q) (k2 : (¬ (v4 = nI 8)) → pW ns d 33 55 [some (pm_r 0 0), u1, some (pm_i v2), some (pm_r 8 i3), some (pm_i v4), some (pm_i v5)] [] (mm x R Z Y o A c G g) Q) : pW ns d 33 38 [some (pm_r 0 0), u1, some (pm_i v2), some (pm_r 8 i3), some (pm_i v4), some (pm_i v5)] [] (mm x R Z Y o A c G g) Q := by
  refine b33_38 hR q3 (fun h1 => ?_) (fun h1 => ?_)
  · skip
    exact (k1 h1)
  · skip
    exact (k2 h1)
set_option maxRecDepth 20000 in
theorem t33_21a (hR : RS R) {u1 : Option pm_V} {v2 : Int32} {v4 : Int32} {v5 : Int32}  (k1 : (nI 8 ≤ v5) → Q (.inl (some (pm_i (nI 1))), (mm x R Z Y o A c G g))) (k2 : (¬ (nI 8 ≤ v5)) → Q (.inl (some (pm_i (nI 1))), (mm x R Z Y o A c G g))) : pW ns d 33 21 [some (pm_r 0 0), u1, some (pm_i v2), some (pm_a none), some (pm_i v4), some (pm_i v5)] [] (mm x R Z Y o A c G g) Q := by
  refine b33_21a hR  (fun h1 => ?_) (fun h1 => ?_)
  · skip
    exact b33_71 hR   (k1 h1)
  · skip
    exact b33_28a hR   (k2 h1)
/-! 34 JobLayer.deliver -/
set_option maxRecDepth 20000 in
theorem b34_0 (hR : RS R) {i1 : Nat} {u2 : Option pm_V} (q1 : i1 < 8)  (k1 : A 8 i1 6 = nI 3 → pW ns d 34 8 [some (pm_r 0 0), some (pm_r 8 i1), u2] [] (mm x R Z Y o A c G g) Q) (k2 : ¬ (A 8 i1 6 = nI 3) → pW ns d 34 10 [some (pm_r 0 0), some (pm_r 8 i1), u2] [] (mm x R Z Y o A c G g) Q) : pW ns d 34 0 [some (pm_r 0 0), some (pm_r 8 i1), u2] [] (mm x R Z Y o A c G g) Q := by
  refine pW_eq 2 (pc' := 4) (L' := [some (pm_r 0 0), some (pm_r 8 i1), u2]) (S' := [pm_i (A 8 i1 6)]) (M' := (mm x R Z Y o A c G g)) (fun call n => ?_) ?_
  · refine Eq.trans (b := pm_g (mm x R Z Y o A c G g) 8 i1 (pm_go call ns d 34 n 4 [some (pm_r 0 0), some (pm_r 8 i1), u2] [pm_i (A 8 i1 6)] (mm x R Z Y o A c G g))) rfl ?_
    refine (g_ok (f := 8) q1 rfl).trans ?_
    rfl
  exact pW_if 2 (c := A 8 i1 6 = nI 3) (fun call n => rfl) k1 k2
set_option maxRecDepth 20000 in
theorem b34_8 (hR : RS R) {u0 : Option pm_V} {u1 : Option pm_V} {u2 : Option pm_V}   (k : Q (.inl (some (pm_a none)), (mm x R Z Y o A c G g))) : pW ns d 34 8 [u0, u1, u2] [] (mm x R Z Y o A c G g) Q := by
  refine pW_ret 2 (fun call n => ?_) k
  rfl
set_option maxRecDepth 20000 in
theorem b34_10 (hR : RS R) {i1 : Nat} {u2 : Option pm_V} (q1 : i1 < 8)  (k : pW ns d 34 12 [some (pm_r 0 0), some (pm_r 8 i1), some (pm_i (nI 1))] [] (mm x R Z Y o A c G g) Q) : pW ns d 34 10 [some (pm_r 0 0), some (pm_r 8 i1), u2] [] (mm x R Z Y o A c G g) Q := by
  exact pW_eq 2 (fun call n => rfl) k
set_option maxRecDepth 20000 in
theorem b34_12 (hR : RS R) {i1 : Nat} {v2 : Int32} (q1 : i1 < 8)  (k1 : nI 7 < v2 → pW ns d 34 119 [some (pm_r 0 0), some (pm_r 8 i1), some (pm_i v2)] [] (mm x R Z Y o A c G g) Q) (k2 : ¬ (nI 7 < v2) → pW ns d 34 18 [some (pm_r 0 0), some (pm_r 8 i1), some (pm_i v2)] [] (mm x R Z Y o A c G g) Q) : pW ns d 34 12 [some (pm_r 0 0), some (pm_r 8 i1), some (pm_i v2)] [] (mm x R Z Y o A c G g) Q := by
  exact pW_if 3 (c := nI 7 < v2) (fun call n => rfl) k1 k2
set_option maxRecDepth 20000 in
theorem b34_119 (hR : RS R) {u0 : Option pm_V} {u1 : Option pm_V} {u2 : Option pm_V}   (k : Q (.inl (some (pm_a none)), (mm x R Z Y o A c G g))) : pW ns d 34 119 [u0, u1, u2] [] (mm x R Z Y o A c G g) Q := by
  refine pW_ret 2 (fun call n => ?_) k
  rfl
set_option maxRecDepth 20000 in
theorem b34_18 (hR : RS R) {i1 : Nat} {v2 : Int32} (q1 : i1 < 8) {x2 : Nat} {o2 : Int64} {A2 : Nat → Nat → Nat → Int32} {c2 : Nat → Int64} {G2 : Nat → Nat → Int32} {g2 : Nat → Int64} {y : Int32} (hE : pE ns d 116 [pm_r 8 i1, pm_i v2] (mm x R Z Y o A c G g) (.inl (some (pm_i y)), (mm x2 R Z Y o2 A2 c2 G2 g2))) (k : pW ns d 34 23 [some (pm_r 0 0), some (pm_r 8 i1), some (pm_i v2)] [pm_i y] (mm x2 R Z Y o2 A2 c2 G2 g2) Q) : pW ns d 34 18 [some (pm_r 0 0), some (pm_r 8 i1), some (pm_i v2)] [] (mm x R Z Y o A c G g) Q := by
  refine pW_call (pc' := 20) (r := []) (L' := [some (pm_r 0 0), some (pm_r 8 i1), some (pm_i v2)]) 3 (fun call n => ?_) hE k
  exact Eq.trans (b := pm_g (mm x R Z Y o A c G g) 8 i1 (pm_cl call 34 (pm_go call ns d 34 n) 20 116 [pm_r 8 i1, pm_i v2] [] [some (pm_r 0 0), some (pm_r 8 i1), some (pm_i v2)] (mm x R Z Y o A c G g))) rfl (g_ok (f := 8) q1 rfl)
set_option maxRecDepth 20000 in
theorem b34_23 (hR : RS R) {i1 : Nat} {v2 : Int32} {vs0 : Int32} (q1 : i1 < 8)  (k1 : vs0 = 0 → pW ns d 34 26 [some (pm_r 0 0), some (pm_r 8 i1), some (pm_i v2)] [] (mm x R Z Y o A c G g) Q) (k2 : ¬ (vs0 = 0) → pW ns d 34 29 [some (pm_r 0 0), some (pm_r 8 i1), some (pm_i v2)] [] (mm x R Z Y o A c G g) Q) : pW ns d 34 23 [some (pm_r 0 0), some (pm_r 8 i1), some (pm_i v2)] [pm_i vs0] (mm x R Z Y o A c G g) Q := by
  exact pW_if 1 (c := vs0 = 0) (fun call n => rfl) k1 k2
set_option maxRecDepth 20000 in
theorem b34_26 (hR : RS R) {i1 : Nat} {v2 : Int32} (q1 : i1 < 8)  (k : pW ns d 34 12 [some (pm_r 0 0), some (pm_r 8 i1), some (pm_i (v2 + (nI 1)))] [] (mm x R Z Y o A c G g) Q) : pW ns d 34 26 [some (pm_r 0 0), some (pm_r 8 i1), some (pm_i v2)] [] (mm x R Z Y o A c G g) Q := by
  exact pW_eq 3 (fun call n => rfl) k
set_option maxRecDepth 20000 in
theorem b34_29 (hR : RS R) {i1 : Nat} {v2 : Int32} (q1 : i1 < 8) {x2 : Nat} {o2 : Int64} {A2 : Nat → Nat → Nat → Int32} {c2 : Nat → Int64} {G2 : Nat → Nat → Int32} {g2 : Nat → Int64}  (hE : pE ns d 117 [pm_r 8 i1, pm_i v2] (mm x R Z Y o A c G g) (.inl (none), (mm x2 R Z Y o2 A2 c2 G2 g2))) (k : pW ns d 34 34 [some (pm_r 0 0), some (pm_r 8 i1), some (pm_i v2)] [] (mm x2 R Z Y o2 A2 c2 G2 g2) Q) : pW ns d 34 29 [some (pm_r 0 0), some (pm_r 8 i1), some (pm_i v2)] [] (mm x R Z Y o A c G g) Q := by
  refine pW_call (pc' := 31) (r := []) (L' := [some (pm_r 0 0), some (pm_r 8 i1), some (pm_i v2)]) 3 (fun call n => ?_) hE k
  exact Eq.trans (b := pm_g (mm x R Z Y o A c G g) 8 i1 (pm_cl call 34 (pm_go call ns d 34 n) 31 117 [pm_r 8 i1, pm_i v2] [] [some (pm_r 0 0), some (pm_r 8 i1), some (pm_i v2)] (mm x R Z Y o A c G g))) rfl (g_ok (f := 8) q1 rfl)
set_option maxRecDepth 20000 in
theorem b34_34 (hR : RS R) {i1 : Nat} {v2 : Int32} {j1 : Nat} (q1 : i1 < 8) (e1 : v2 = nI j1) (l1 : j1 < 8)  (k1 : A 10 i1 j1 = nI 2 → pW ns d 34 44 [some (pm_r 0 0), some (pm_r 8 i1), some (pm_i v2)] [] (mm x R Z Y o A c G g) Q) (k2 : ¬ (A 10 i1 j1 = nI 2) → pW ns d 34 52 [some (pm_r 0 0), some (pm_r 8 i1), some (pm_i v2)] [] (mm x R Z Y o A c G g) Q) : pW ns d 34 34 [some (pm_r 0 0), some (pm_r 8 i1), some (pm_i v2)] [] (mm x R Z Y o A c G g) Q := by
  refine pW_eq 2 (pc' := 38) (L' := [some (pm_r 0 0), some (pm_r 8 i1), some (pm_i v2)]) (S' := [pm_r 10 i1]) (M' := (mm x R Z Y o A c G g)) (fun call n => ?_) ?_
  · refine Eq.trans (b := pm_g (mm x R Z Y o A c G g) 8 i1 (pm_go call ns d 34 n 38 [some (pm_r 0 0), some (pm_r 8 i1), some (pm_i v2)] [pm_a (R 8 i1 2)] (mm x R Z Y o A c G g))) rfl ?_
    refine (g_ok (f := 8) q1 rfl).trans ?_
    exact (congrArg (fun z => pm_go call ns d 34 n 38 [some (pm_r 0 0), some (pm_r 8 i1), some (pm_i v2)] [pm_a z] (mm x R Z Y o A c G g)) (rs_8_2 hR q1))
  refine pW_eq 2 (pc' := 40) (L' := [some (pm_r 0 0), some (pm_r 8 i1), some (pm_i v2)]) (S' := [pm_i (A 10 i1 j1)]) (M' := (mm x R Z Y o A c G g)) (fun call n => ?_) ?_
  · refine Eq.trans (b := pm_g (mm x R Z Y o A c G g) 10 i1 (pm_ix (v2) 8 (fun jx => pm_go call ns d 34 n 40 [some (pm_r 0 0), some (pm_r 8 i1), some (pm_i v2)] [pm_i (A 10 i1 jx)] (mm x R Z Y o A c G g)))) rfl ?_
    refine (g_ok (f := 10) q1 rfl).trans ?_
    refine (ix_ok (j := j1) e1 l1 (by decide)).trans ?_
    rfl
  exact pW_if 2 (c := A 10 i1 j1 = nI 2) (fun call n => rfl) k1 k2
set_option maxRecDepth 20000 in
theorem b34_44 (hR : RS R) {i1 : Nat} {v2 : Int32} (q1 : i1 < 8) {x2 : Nat} {o2 : Int64} {A2 : Nat → Nat → Nat → Int32} {c2 : Nat → Int64} {G2 : Nat → Nat → Int32} {g2 : Nat → Int64}  (hE : pE ns d 120 [pm_r 8 i1, pm_i v2] (mm x R Z Y o A c G g) (.inl (none), (mm x2 R Z Y o2 A2 c2 G2 g2))) (k : pW ns d 34 49 [some (pm_r 0 0), some (pm_r 8 i1), some (pm_i v2)] [] (mm x2 R Z Y o2 A2 c2 G2 g2) Q) : pW ns d 34 44 [some (pm_r 0 0), some (pm_r 8 i1), some (pm_i v2)] [] (mm x R Z Y o A c G g) Q := by
  refine pW_call (pc' := 46) (r := []) (L' := [some (pm_r 0 0), some (pm_r 8 i1), some (pm_i v2)]) 3 (fun call n => ?_) hE k
  exact Eq.trans (b := pm_g (mm x R Z Y o A c G g) 8 i1 (pm_cl call 34 (pm_go call ns d 34 n) 46 120 [pm_r 8 i1, pm_i v2] [] [some (pm_r 0 0), some (pm_r 8 i1), some (pm_i v2)] (mm x R Z Y o A c G g))) rfl (g_ok (f := 8) q1 rfl)
set_option maxRecDepth 20000 in
theorem b34_52 (hR : RS R) {i1 : Nat} {v2 : Int32} (q1 : i1 < 8)  (k1 : A 8 i1 0 = 0 → pW ns d 34 74 [some (pm_r 0 0), some (pm_r 8 i1), some (pm_i v2)] [] (mm x R Z Y o A c G g) Q) (k2 : ¬ (A 8 i1 0 = 0) → pW ns d 34 59 [some (pm_r 0 0), some (pm_r 8 i1), some (pm_i v2)] [] (mm x R Z Y o A c G g) Q) : pW ns d 34 52 [some (pm_r 0 0), some (pm_r 8 i1), some (pm_i v2)] [] (mm x R Z Y o A c G g) Q := by
  refine pW_eq 2 (pc' := 56) (L' := [some (pm_r 0 0), some (pm_r 8 i1), some (pm_i v2)]) (S' := [pm_i (A 8 i1 0)]) (M' := (mm x R Z Y o A c G g)) (fun call n => ?_) ?_
  · refine Eq.trans (b := pm_g (mm x R Z Y o A c G g) 8 i1 (pm_go call ns d 34 n 56 [some (pm_r 0 0), some (pm_r 8 i1), some (pm_i v2)] [pm_i (A 8 i1 0)] (mm x R Z Y o A c G g))) rfl ?_
    refine (g_ok (f := 8) q1 rfl).trans ?_
    rfl
  exact pW_if 1 (c := A 8 i1 0 = 0) (fun call n => rfl) k1 k2
set_option maxRecDepth 20000 in
theorem b34_49 (hR : RS R) {i1 : Nat} {v2 : Int32} (q1 : i1 < 8)  (k : pW ns d 34 12 [some (pm_r 0 0), some (pm_r 8 i1), some (pm_i (v2 + (nI 1)))] [] (mm x R Z Y o A c G g) Q) : pW ns d 34 49 [some (pm_r 0 0), some (pm_r 8 i1), some (pm_i v2)] [] (mm x R Z Y o A c G g) Q := by
  exact pW_eq 3 (fun call n => rfl) k
set_option maxRecDepth 20000 in
theorem b34_74 (hR : RS R) {i1 : Nat} {v2 : Int32} (q1 : i1 < 8)  (k1 : A 8 i1 0 = 0 → pW ns d 34 113 [some (pm_r 0 0), some (pm_r 8 i1), some (pm_i v2)] [] (mm x R Z Y o A c G g) Q) (k2 : ¬ (A 8 i1 0 = 0) → pW ns d 34 81 [some (pm_r 0 0), some (pm_r 8 i1), some (pm_i v2)] [] (mm x R Z Y o A c G g) Q) : pW ns d 34 74 [some (pm_r 0 0), some (pm_r 8 i1), some (pm_i v2)] [] (mm x R Z Y o A c G g) Q := by
  refine pW_eq 2 (pc' := 78) (L' := [some (pm_r 0 0), some (pm_r 8 i1), some (pm_i v2)]) (S' := [pm_i (A 8 i1 0)]) (M' := (mm x R Z Y o A c G g)) (fun call n => ?_) ?_
  · refine Eq.trans (b := pm_g (mm x R Z Y o A c G g) 8 i1 (pm_go call ns d 34 n 78 [some (pm_r 0 0), some (pm_r 8 i1), some (pm_i v2)] [pm_i (A 8 i1 0)] (mm x R Z Y o A c G g))) rfl ?_
    refine (g_ok (f := 8) q1 rfl).trans ?_
    rfl
  exact pW_if 1 (c := A 8 i1 0 = 0) (fun call n => rfl) k1 k2
set_option maxRecDepth 20000 in
theorem b34_59 (hR : RS R) {i1 : Nat} {v2 : Int32} (q1 : i1 < 8)  (k1 : nI 3 < v2 → pW ns d 34 74 [some (pm_r 0 0), some (pm_r 8 i1), some (pm_i v2)] [] (mm x R Z Y o A c G g) Q) (k2 : ¬ (nI 3 < v2) → pW ns d 34 64 [some (pm_r 0 0), some (pm_r 8 i1), some (pm_i v2)] [] (mm x R Z Y o A c G g) Q) : pW ns d 34 59 [some (pm_r 0 0), some (pm_r 8 i1), some (pm_i v2)] [] (mm x R Z Y o A c G g) Q := by
  exact pW_if 3 (c := nI 3 < v2) (fun call n => rfl) k1 k2
set_option maxRecDepth 20000 in
theorem b34_113 (hR : RS R) {i1 : Nat} {v2 : Int32} (q1 : i1 < 8)  (k : pW ns d 34 12 [some (pm_r 0 0), some (pm_r 8 i1), some (pm_i (v2 + (nI 1)))] [] (mm x R Z Y o A c G g) Q) : pW ns d 34 113 [some (pm_r 0 0), some (pm_r 8 i1), some (pm_i v2)] [] (mm x R Z Y o A c G g) Q := by
  exact pW_eq 2 (fun call n => rfl) k
set_option maxRecDepth 20000 in
theorem b34_81 (hR : RS R) {i1 : Nat} {v2 : Int32} (q1 : i1 < 8)  (k1 : nI 5 < v2 → pW ns d 34 113 [some (pm_r 0 0), some (pm_r 8 i1), some (pm_i v2)] [] (mm x R Z Y o A c G g) Q) (k2 : ¬ (nI 5 < v2) → pW ns d 34 86 [some (pm_r 0 0), some (pm_r 8 i1), some (pm_i v2)] [] (mm x R Z Y o A c G g) Q) : pW ns d 34 81 [some (pm_r 0 0), some (pm_r 8 i1), some (pm_i v2)] [] (mm x R Z Y o A c G g) Q := by
  exact pW_if 3 (c := nI 5 < v2) (fun call n => rfl) k1 k2
set_option maxRecDepth 20000 in
theorem b34_64 (hR : RS R) {i1 : Nat} {v2 : Int32} (q1 : i1 < 8) {x2 : Nat} {o2 : Int64} {A2 : Nat → Nat → Nat → Int32} {c2 : Nat → Int64} {G2 : Nat → Nat → Int32} {g2 : Nat → Int64} {j : Nat} (hE : pE ns d 35 [pm_r 0 0, pm_r 8 i1, pm_i ((nI 64) + v2)] (mm x R Z Y o A c G g) (.inl (some (pm_r 8 j)), (mm x2 R Z Y o2 A2 c2 G2 g2))) (k : pW ns d 34 73 [some (pm_r 0 0), some (pm_r 8 i1), some (pm_i v2)] [pm_r 8 j] (mm x2 R Z Y o2 A2 c2 G2 g2) Q) : pW ns d 34 64 [some (pm_r 0 0), some (pm_r 8 i1), some (pm_i v2)] [] (mm x R Z Y o A c G g) Q := by
  refine pW_call (pc' := 70) (r := []) (L' := [some (pm_r 0 0), some (pm_r 8 i1), some (pm_i v2)]) 6 (fun call n => ?_) hE k
  exact Eq.trans (b := pm_g (mm x R Z Y o A c G g) 0 0 (pm_cl call 34 (pm_go call ns d 34 n) 70 35 [pm_r 0 0, pm_r 8 i1, pm_i ((nI 64) + v2)] [] [some (pm_r 0 0), some (pm_r 8 i1), some (pm_i v2)] (mm x R Z Y o A c G g))) rfl (g_ok (f := 0) (by decide) rfl)
set_option maxRecDepth 20000 in
theorem b34_64n (hR : RS R) {i1 : Nat} {v2 : Int32} (q1 : i1 < 8) {x2 : Nat} {o2 : Int64} {A2 : Nat → Nat → Nat → Int32} {c2 : Nat → Int64} {G2 : Nat → Nat → Int32} {g2 : Nat → Int64}  (hE : pE ns d 35 [pm_r 0 0, pm_r 8 i1, pm_i ((nI 64) + v2)] (mm x R Z Y o A c G g) (.inl (some (pm_a none)), (mm x2 R Z Y o2 A2 c2 G2 g2))) (k : pW ns d 34 73 [some (pm_r 0 0), some (pm_r 8 i1), some (pm_i v2)] [pm_a none] (mm x2 R Z Y o2 A2 c2 G2 g2) Q) : pW ns d 34 64 [some (pm_r 0 0), some (pm_r 8 i1), some (pm_i v2)] [] (mm x R Z Y o A c G g) Q := by
  refine pW_call (pc' := 70) (r := []) (L' := [some (pm_r 0 0), some (pm_r 8 i1), some (pm_i v2)]) 6 (fun call n => ?_) hE k
  exact Eq.trans (b := pm_g (mm x R Z Y o A c G g) 0 0 (pm_cl call 34 (pm_go call ns d 34 n) 70 35 [pm_r 0 0, pm_r 8 i1, pm_i ((nI 64) + v2)] [] [some (pm_r 0 0), some (pm_r 8 i1), some (pm_i v2)] (mm x R Z Y o A c G g))) rfl (g_ok (f := 0) (by decide) rfl)
set_option maxRecDepth 20000 in
theorem b34_86 (hR : RS R) {i1 : Nat} {v2 : Int32} (q1 : i1 < 8) {x2 : Nat} {o2 : Int64} {A2 : Nat → Nat → Nat → Int32} {c2 : Nat → Int64} {G2 : Nat → Nat → Int32} {g2 : Nat → Int64} {y : Int32} (hE : pE ns d 27 [pm_r 0 0, pm_i (A 8 i1 8)] (mm x R Z Y o A c G g) (.inl (some (pm_i y)), (mm x2 R Z Y o2 A2 c2 G2 g2))) (k : pW ns d 34 94 [some (pm_r 0 0), some (pm_r 8 i1), some (pm_i v2)] [pm_i y] (mm x2 R Z Y o2 A2 c2 G2 g2) Q) : pW ns d 34 86 [some (pm_r 0 0), some (pm_r 8 i1), some (pm_i v2)] [] (mm x R Z Y o A c G g) Q := by
  refine pW_eq 3 (pc' := 91) (L' := [some (pm_r 0 0), some (pm_r 8 i1), some (pm_i v2)]) (S' := [pm_i (A 8 i1 8), pm_r 0 0]) (M' := (mm x R Z Y o A c G g)) (fun call n => ?_) ?_
  · refine Eq.trans (b := pm_g (mm x R Z Y o A c G g) 8 i1 (pm_go call ns d 34 n 91 [some (pm_r 0 0), some (pm_r 8 i1), some (pm_i v2)] [pm_i (A 8 i1 8), pm_r 0 0] (mm x R Z Y o A c G g))) rfl ?_
    refine (g_ok (f := 8) q1 rfl).trans ?_
    rfl
  refine pW_call (pc' := 91) (r := []) (L' := [some (pm_r 0 0), some (pm_r 8 i1), some (pm_i v2)]) 1 (fun call n => ?_) hE k
  exact Eq.trans (b := pm_g (mm x R Z Y o A c G g) 0 0 (pm_cl call 34 (pm_go call ns d 34 n) 91 27 [pm_r 0 0, pm_i (A 8 i1 8)] [] [some (pm_r 0 0), some (pm_r 8 i1), some (pm_i v2)] (mm x R Z Y o A c G g))) rfl (g_ok (f := 0) (by decide) rfl)
set_option maxRecDepth 20000 in
theorem b34_73 (hR : RS R) {u0 : Option pm_V} {u1 : Option pm_V} {u2 : Option pm_V} {is0 : Nat} (qs0 : is0 < 8)  (k : Q (.inl (some (pm_r 8 is0)), (mm x R Z Y o A c G g))) : pW ns d 34 73 [u0, u1, u2] [pm_r 8 is0] (mm x R Z Y o A c G g) Q := by
  refine pW_ret 1 (fun call n => ?_) k
  rfl
set_option maxRecDepth 20000 in
theorem b34_73a (hR : RS R) {u0 : Option pm_V} {u1 : Option pm_V} {u2 : Option pm_V}   (k : Q (.inl (some (pm_a none)), (mm x R Z Y o A c G g))) : pW ns d 34 73 [u0, u1, u2] [pm_a none] (mm x R Z Y o A c G g) Q := by
  refine pW_ret 1 (fun call n => ?_) k
  rfl
set_option maxRecDepth 20000 in
theorem b34_94 (hR : RS R) {i1 : Nat} {v2 : Int32} {vs0 : Int32} (q1 : i1 < 8)  (k1 : vs0 = 0 → pW ns d 34 97 [some (pm_r 0 0), some (pm_r 8 i1), some (pm_i v2)] [] (mm x R Z Y o A c G g) Q) (k2 : ¬ (vs0 = 0) → pW ns d 34 113 [some (pm_r 0 0), some (pm_r 8 i1), some (pm_i v2)] [] (mm x R Z Y o A c G g) Q) : pW ns d 34 94 [some (pm_r 0 0), some (pm_r 8 i1), some (pm_i v2)] [pm_i vs0] (mm x R Z Y o A c G g) Q := by
  exact pW_if 1 (c := vs0 = 0) (fun call n => rfl) k1 k2
set_option maxRecDepth 20000 in
theorem b34_97 (hR : RS R) {i1 : Nat} {u2 : Option pm_V} (q1 : i1 < 8) {x2 : Nat} {o2 : Int64} {A2 : Nat → Nat → Nat → Int32} {c2 : Nat → Int64} {G2 : Nat → Nat → Int32} {g2 : Nat → Int64} {j : Nat} (hE : pE ns d 25 [pm_r 0 0, pm_r 8 i1] (mm x R Z Y o (pm_u (pm_u A 8 i1 6 (nI 3)) 8 i1 15 (nI 0)) c G g) (.inl (some (pm_r 8 j)), (mm x2 R Z Y o2 A2 c2 G2 g2))) (k : pW ns d 34 112 [some (pm_r 0 0), some (pm_r 8 i1), u2] [pm_r 8 j] (mm x2 R Z Y o2 A2 c2 G2 g2) Q) : pW ns d 34 97 [some (pm_r 0 0), some (pm_r 8 i1), u2] [] (mm x R Z Y o A c G g) Q := by
  refine pW_eq 3 (pc' := 102) (L' := [some (pm_r 0 0), some (pm_r 8 i1), u2]) (S' := []) (M' := (mm x R Z Y o (pm_u A 8 i1 6 (nI 3)) c G g)) (fun call n => ?_) ?_
  · refine Eq.trans (b := pm_g (mm x R Z Y o A c G g) 8 i1 (pm_go call ns d 34 n 102 [some (pm_r 0 0), some (pm_r 8 i1), u2] [] (pm_u (mA Z A G) 8 i1 6 (nI 3), mB Y o c g, R, pm_tot, x))) rfl ?_
    refine (g_ok (f := 8) q1 rfl).trans ?_
    exact (congrArg (fun z => pm_go call ns d 34 n 102 [some (pm_r 0 0), some (pm_r 8 i1), u2] [] (z, mB Y o c g, R, pm_tot, x)) (uA (by decide)))
  refine pW_eq 3 (pc' := 107) (L' := [some (pm_r 0 0), some (pm_r 8 i1), u2]) (S' := []) (M' := (mm x R Z Y o (pm_u (pm_u A 8 i1 6 (nI 3)) 8 i1 15 (nI 0)) c G g)) (fun call n => ?_) ?_
  · refine Eq.trans (b := pm_g (mm x R Z Y o (pm_u A 8 i1 6 (nI 3)) c G g) 8 i1 (pm_bo (nI 0) (pm_go call ns d 34 n 107 [some (pm_r 0 0), some (pm_r 8 i1), u2] [] (pm_u (mA Z (pm_u A 8 i1 6 (nI 3)) G) 8 i1 15 (nI 0), mB Y o c g, R, pm_tot, x)))) rfl ?_
    refine (g_ok (f := 8) q1 rfl).trans ?_
    refine (bo_ok (by decide)).trans ?_
    exact (congrArg (fun z => pm_go call ns d 34 n 107 [some (pm_r 0 0), some (pm_r 8 i1), u2] [] (z, mB Y o c g, R, pm_tot, x)) (uA (by decide)))
  refine pW_call (pc' := 109) (r := []) (L' := [some (pm_r 0 0), some (pm_r 8 i1), u2]) 3 (fun call n => ?_) hE k
  exact Eq.trans (b := pm_g (mm x R Z Y o (pm_u (pm_u A 8 i1 6 (nI 3)) 8 i1 15 (nI 0)) c G g) 0 0 (pm_cl call 34 (pm_go call ns d 34 n) 109 25 [pm_r 0 0, pm_r 8 i1] [] [some (pm_r 0 0), some (pm_r 8 i1), u2] (mm x R Z Y o (pm_u (pm_u A 8 i1 6 (nI 3)) 8 i1 15 (nI 0)) c G g))) rfl (g_ok (f := 0) (by decide) rfl)
set_option maxRecDepth 20000 in
theorem b34_97n (hR : RS R) {i1 : Nat} {u2 : Option pm_V} (q1 : i1 < 8) {x2 : Nat} {o2 : Int64} {A2 : Nat → Nat → Nat → Int32} {c2 : Nat → Int64} {G2 : Nat → Nat → Int32} {g2 : Nat → Int64}  (hE : pE ns d 25 [pm_r 0 0, pm_r 8 i1] (mm x R Z Y o (pm_u (pm_u A 8 i1 6 (nI 3)) 8 i1 15 (nI 0)) c G g) (.inl (some (pm_a none)), (mm x2 R Z Y o2 A2 c2 G2 g2))) (k : pW ns d 34 112 [some (pm_r 0 0), some (pm_r 8 i1), u2] [pm_a none] (mm x2 R Z Y o2 A2 c2 G2 g2) Q) : pW ns d 34 97 [some (pm_r 0 0), some (pm_r 8 i1), u2] [] (mm x R Z Y o A c G g) Q := by
  refine pW_eq 3 (pc' := 102) (L' := [some (pm_r 0 0), some (pm_r 8 i1), u2]) (S' := []) (M' := (mm x R Z Y o (pm_u A 8 i1 6 (nI 3)) c G g)) (fun call n => ?_) ?_
  · refine Eq.trans (b := pm_g (mm x R Z Y o A c G g) 8 i1 (pm_go call ns d 34 n 102 [some (pm_r 0 0), some (pm_r 8 i1), u2] [] (pm_u (mA Z A G) 8 i1 6 (nI 3), mB Y o c g, R, pm_tot, x))) rfl ?_
    refine (g_ok (f := 8) q1 rfl).trans ?_
    exact (congrArg (fun z => pm_go call ns d 34 n 102 [some (pm_r 0 0), some (pm_r 8 i1), u2] [] (z, mB Y o c g, R, pm_tot, x)) (uA (by decide)))
  refine pW_eq 3 (pc' := 107) (L' := [some (pm_r 0 0), some (pm_r 8 i1), u2]) (S' := []) (M' := (mm x R Z Y o (pm_u (pm_u A 8 i1 6 (nI 3)) 8 i1 15 (nI 0)) c G g)) (fun call n => ?_) ?_
  · refine Eq.trans (b := pm_g (mm x R Z Y o (pm_u A 8 i1 6 (nI 3)) c G g) 8 i1 (pm_bo (nI 0) (pm_go call ns d 34 n 107 [some (pm_r 0 0), some (pm_r 8 i1), u2] [] (pm_u (mA Z (pm_u A 8 i1 6 (nI 3)) G) 8 i1 15 (nI 0), mB Y o c g, R, pm_tot, x)))) rfl ?_
    refine (g_ok (f := 8) q1 rfl).trans ?_
    refine (bo_ok (by decide)).trans ?_
    exact (congrArg (fun z => pm_go call ns d 34 n 107 [some (pm_r 0 0), some (pm_r 8 i1), u2] [] (z, mB Y o c g, R, pm_tot, x)) (uA (by decide)))
  refine pW_call (pc' := 109) (r := []) (L' := [some (pm_r 0 0), some (pm_r 8 i1), u2]) 3 (fun call n => ?_) hE k
  exact Eq.trans (b := pm_g (mm x R Z Y o (pm_u (pm_u A 8 i1 6 (nI 3)) 8 i1 15 (nI 0)) c G g) 0 0 (pm_cl call 34 (pm_go call ns d 34 n) 109 25 [pm_r 0 0, pm_r 8 i1] [] [some (pm_r 0 0), some (pm_r 8 i1), u2] (mm x R Z Y o (pm_u (pm_u A 8 i1 6 (nI 3)) 8 i1 15 (nI 0)) c G g))) rfl (g_ok (f := 0) (by decide) rfl)
set_option maxRecDepth 20000 in
theorem b34_112 (hR : RS R) {u0 : Option pm_V} {u1 : Option pm_V} {u2 : Option pm_V} {is0 : Nat} (qs0 : is0 < 8)  (k : Q (.inl (some (pm_r 8 is0)), (mm x R Z Y o A c G g))) : pW ns d 34 112 [u0, u1, u2] [pm_r 8 is0] (mm x R Z Y o A c G g) Q := by
  refine pW_ret 1 (fun call n => ?_) k
  rfl
set_option maxRecDepth 20000 in
theorem b34_112a (hR : RS R) {u0 : Option pm_V} {u1 : Option pm_V} {u2 : Option pm_V}   (k : Q (.inl (some (pm_a none)), (mm x R Z Y o A c G g))) : pW ns d 34 112 [u0, u1, u2] [pm_a none] (mm x R Z Y o A c G g) Q := by
  refine pW_ret 1 (fun call n => ?_) k
  rfl
set_option maxRecDepth 20000 in
theorem t34_0 (hR : RS R) {i1 : Nat} {u2 : Option pm_V} (q1 : i1 < 8) (k1 : (A 8 i1 6 = nI 3) → Q (.inl (some (pm_a none)), (mm x R Z Y o A c G g))) (k2 : (¬ (A 8 i1 6 = nI 3)) → pW ns d 34 12 [some (pm_r 0 0), some (pm_r 8 i1), some (pm_i (nI 1))] [] (mm x R Z Y o A c G g) Q) : pW ns d 34 0 [some (pm_r 0 0), some (pm_r 8 i1), u2] [] (mm x R Z Y o A c G g) Q := by
  refine b34_0 hR q1 (fun h1 => ?_) (fun h1 => ?_)
  · skip
    exact b34_8 hR   (k1 h1)
  · skip
    exact b34_10 hR q1  (k2 h1)
set_option maxRecDepth 20000 in
theorem t34_12 (hR : RS R) {i1 : Nat} {v2 : Int32} (q1 : i1 < 8) (k1 : (nI 7 < v2) → Q (.inl (some (pm_a none)), (mm x R Z Y o A c G g))) (k2 : (¬ (nI 7 < v2)) → pW ns d 34 18 [some (pm_r 0 0), some (pm_r 8 i1), some (pm_i v2)] [] (mm x R Z Y o A c G g) Q) : pW ns d 34 12 [some (pm_r 0 0), some (pm_r 8 i1), some (pm_i v2)] [] (mm x R Z Y o A c G g) Q := by
  refine b34_12 hR q1 (fun h1 => ?_) (fun h1 => ?_)
  · skip
    exact b34_119 hR   (k1 h1)
  · skip
    exact (k2 h1)
set_option maxRecDepth 20000 in
theorem t34_23 (hR : RS R) {i1 : Nat} {v2 : Int32} {vs0 : Int32} (q1 : i1 < 8) (k1 : (vs0 = 0) → pW ns d 34 12 [some (pm_r 0 0), some (pm_r 8 i1), some (pm_i (v2 + (nI 1)))] [] (mm x R Z Y o A c G g) Q) (k2 : (¬ (vs0 = 0)) → pW ns d 34 29 [some (pm_r 0 0), some (pm_r 8 i1), some (pm_i v2)] [] (mm x R Z Y o A c G g) Q) : pW ns d 34 23 [some (pm_r 0 0), some (pm_r 8 i1), some (pm_i v2)] [pm_i vs0] (mm x R Z Y o A c G g) Q := by
  refine b34_23 hR q1 (fun h1 => ?_) (fun h1 => ?_)
  · skip
    exact b34_26 hR q1  (k1 h1)
  · skip
    exact (k2 h1)
set_option maxRecDepth 20000 in
theorem t34_34 (hR : RS R) {i1 : Nat} {v2 : Int32} {j1 : Nat} (q1 : i1 < 8) (e1 : v2 = nI j1) (l1 : j1 < 8) (k1 : (A 10 i1 j1 = nI 2) → pW ns d 34 44 [some (pm_r 0 0), some (pm_r 8 i1), some (pm_i v2)] [] (mm x R Z Y o A c G g) Q) (k2 : (¬ (A 10 i1 j1 = nI 2)) → (A 8 i1 0 = 0) → (A 8 i1 0 = 0) → pW ns d 34 12 [some (pm_r 0 0), some (pm_r 8 i1), some (pm_i (v2 + (nI 1)))] [] (mm x R Z Y o A c G g) Q) (k3 : (¬ (A 10 i1 j1 = nI 2)) → (A 8 i1 0 = 0) → (¬ (A 8 i1 0 = 0)) → (nI 5 < v2) → pW ns d 34 12 [some (pm_r 0 0), some (pm_r 8 i1), some (pm_i (v2 + (nI 1)))] [] (mm x R Z Y o A c G g) Q) (k4 : (¬ (A 10 i1 j1 = nI 2)) → (A 8 i1 0 = 0) → (¬ (A 8 i1 0 = 0)) → (¬ (nI 5 < v2)) → pW ns d 34 86 [some (pm_r 0 0), some (pm_r 8 i1), some (pm_i v2)] [] (mm x R Z Y o A c G g) Q) (k5 : (¬ (A 10 i1 j1 = nI 2)) → (¬ (A 8 i1 0 = 0)) → (nI 3 < v2) → (A 8 i1 0 = 0) → pW ns d 34 12 [some (pm_r 0 0), some (pm_r 8 i1), some (pm_i (v2 + (nI 1)))] [] (mm x R Z Y o A c G g) Q) (k6 : (¬ (A 10 i1 j1 = nI 2)) → (¬ (A 8 i1 0 = 0)) → (nI 3 < v2) → (¬ (A 8 i1 0 = 0)) → (nI 5 < v2) → pW ns d 34 12 [some (pm_r 0 0), some (pm_r 8 i1), some (pm_i (v2 + (nI 1)))] [] (mm x R Z Y o A c G g) Q) (k7 : (¬ (A 10 i1 j1 = nI 2)) → (¬ (A 8 i1 0 = 0)) → (nI 3 < v2) → (¬ (A 8 i1 0 = 0)) → (¬ (nI 5 < v2)) → pW ns d 34 86 [some (pm_r 0 0), some (pm_r 8 i1), some (pm_i v2)] [] (mm x R Z Y o A c G g) Q) (k8 : (¬ (A 10 i1 j1 = nI 2)) → (¬ (A 8 i1 0 = 0)) → (¬ (nI 3 < v2)) → pW ns d 34 64 [some (pm_r 0 0), some (pm_r 8 i1), some (pm_i v2)] [] (mm x R Z Y o A c G g) Q) : pW ns d 34 34 [some (pm_r 0 0), some (pm_r 8 i1), some (pm_i v2)] [] (mm x R Z Y o A c G g) Q := by
  refine b34_34 hR q1 e1 l1 (fun h1 => ?_) (fun h1 => ?_)
  · skip
    exact (k1 h1)
  · skip
    refine b34_52 hR q1  (fun h2 => ?_) (fun h2 => ?_)
    · skip
      refine b34_74 hR q1  (fun h3 => ?_) (fun h3 => ?_)
      · skip
        exact b34_113 hR q1  (k2 h1 h2 h3)
      · skip
        refine b34_81 hR q1  (fun h4 => ?_) (fun h4 => ?_)
        · skip
          exact b34_113 hR q1  (k3 h1 h2 h3 h4)
        · skip
          exact (k4 h1 h2 h3 h4)
    · skip
      refine b34_59 hR q1  (fun h3 => ?_) (fun h3 => ?_)
      · skip
        refine b34_74 hR q1  (fun h4 => ?_) (fun h4 => ?_)
        · skip
          exact b34_113 hR q1  (k5 h1 h2 h3 h4)
        · skip
          refine b34_81 hR q1  (fun h5 => ?_) (fun h5 => ?_)
          · skip
            exact b34_113 hR q1  (k6 h1 h2 h3 h4 h5)
          · skip
            exact (k7 h1 h2 h3 h4 h5)
      · skip
        exact (k8 h1 h2 h3)
set_option maxRecDepth 20000 in
theorem t34_52 (hR : RS R) {i1 : Nat} {v2 : Int32} (q1 : i1 < 8) (k1 : (A 8 i1 0 = 0) → (A 8 i1 0 = 0) → pW ns d 34 12 [some (pm_r 0 0), some (pm_r 8 i1), some (pm_i (v2 + (nI 1)))] [] (mm x R Z Y o A c G g) Q) (k2 : (A 8 i1 0 = 0) → (¬ (A 8 i1 0 = 0)) → (nI 5 < v2) → pW ns d 34 12 [some (pm_r 0 0), some (pm_r 8 i1), some (pm_i (v2 + (nI 1)))] [] (mm x R Z Y o A c G g) Q) (k3 : (A 8 i1 0 = 0) → (¬ (A 8 i1 0 = 0)) → (¬ (nI 5 < v2)) → pW ns d 34 86 [some (pm_r 0 0), some (pm_r 8 i1), some (pm_i v2)] [] (mm x R Z Y o A c G g) Q) (k4 : (¬ (A 8 i1 0 = 0)) → (nI 3 < v2) → (A 8 i1 0 = 0) → pW ns d 34 12 [some (pm_r 0 0), some (pm_r 8 i1), some (pm_i (v2 + (nI 1)))] [] (mm x R Z Y o A c G g) Q) (k5 : (¬ (A 8 i1 0 = 0)) → (nI 3 < v2) → (¬ (A 8 i1 0 = 0)) → (nI 5 < v2) → pW ns d 34 12 [some (pm_r 0 0), some (pm_r 8 i1), some (pm_i (v2 + (nI 1)))] [] (mm x R Z Y o A c G g) Q) (k6 : (¬ (A 8 i1 0 = 0)) → (nI 3 < v2) → (¬ (A 8 i1 0 = 0)) → (¬ (nI 5 < v2)) → pW ns d 34 86 [some (pm_r 0 0), some (pm_r 8 i1), some (pm_i v2)] [] (mm x R Z Y o A c G g) Q) (k7 : (¬ (A 8 i1 0 = 0)) → (¬ (nI 3 < v2)) → pW ns d 34 64 [some (pm_r 0 0), some (pm_r 8 i1), some (pm_i v2)] [] (mm x R Z Y o A c G g) Q) : pW ns d 34 52 [some (pm_r 0 0), some (pm_r 8 i1), some (pm_i v2)] [] (mm x R Z Y o A c G g) Q := by
  refine b34_52 hR q1 (fun h1 => ?_) (fun h1 => ?_)
  · skip
    refine b34_74 hR q1  (fun h2 => ?_) (fun h2 => ?_)
    · skip
      exact b34_113 hR q1  (k1 h1 h2)
    · skip
      refine b34_81 hR q1  (fun h3 => ?_) (fun h3 => ?_)
      · skip
        exact b34_113 hR q1  (k2 h1 h2 h3)
      · skip
        exact (k3 h1 h2 h3)
  · skip
    refine b34_59 hR q1  (fun h2 => ?_) (fun h2 => ?_)
    · skip
      refine b34_74 hR q1  (fun h3 => ?_) (fun h3 => ?_)
      · skip
        exact b34_113 hR q1  (k4 h1 h2 h3)
      · skip
        refine b34_81 hR q1  (fun h4 => ?_) (fun h4 => ?_)
        · skip
          exact b34_113 hR q1  (k5 h1 h2 h3 h4)
        · skip
          exact (k6 h1 h2 h3 h4)
    · skip
      exact (k7 h1 h2)
set_option maxRecDepth 20000 in
theorem t34_74 (hR : RS R) {i1 : Nat} {v2 : Int32} (q1 : i1 < 8) (k1 : (A 8 i1 0 = 0) → pW ns d 34 12 [some (pm_r 0 0), some (pm_r 8 i1), some (pm_i (v2 + (nI 1)))] [] (mm x R Z Y o A c G g) Q) (k2 : (¬ (A 8 i1 0 = 0)) → (nI 5 < v2) → pW ns d 34 12 [some (pm_r 0 0), some (pm_r 8 i1), some (pm_i (v2 + (nI 1)))] [] (mm x R Z Y o A c G g) Q) (k3 : (¬ (A 8 i1 0 = 0)) → (¬ (nI 5 < v2)) → pW ns d 34 86 [some (pm_r 0 0), some (pm_r 8 i1), some (pm_i v2)] [] (mm x R Z Y o A c G g) Q) : pW ns d 34 74 [some (pm_r 0 0), some (pm_r 8 i1), some (pm_i v2)] [] (mm x R Z Y o A c G g) Q := by
  refine b34_74 hR q1 (fun h1 => ?_) (fun h1 => ?_)
  · skip
    exact b34_113 hR q1  (k1 h1)
  · skip
    refine b34_81 hR q1  (fun h2 => ?_) (fun h2 => ?_)
    · skip
      exact b34_113 hR q1  (k2 h1 h2)
    · skip
      exact (k3 h1 h2)
set_option maxRecDepth 20000 in
theorem t34_59 (hR : RS R) {i1 : Nat} {v2 : Int32} (q1 : i1 < 8) (k1 : (nI 3 < v2) → (A 8 i1 0 = 0) → pW ns d 34 12 [some (pm_r 0 0), some (pm_r 8 i1), some (pm_i (v2 + (nI 1)))] [] (mm x R Z Y o A c G g) Q) (k2 : (nI 3 < v2) → (¬ (A 8 i1 0 = 0)) → (nI 5 < v2) → pW ns d 34 12 [some (pm_r 0 0), some (pm_r 8 i1), some (pm_i (v2 + (nI 1)))] [] (mm x R Z Y o A c G g) Q) (k3 : (nI 3 < v2) → (¬ (A 8 i1 0 = 0)) → (¬ (nI 5 < v2)) → pW ns d 34 86 [some (pm_r 0 0), some (pm_r 8 i1), some (pm_i v2)] [] (mm x R Z Y o A c G g) Q) (k4 : (¬ (nI 3 < v2)) → pW ns d 34 64 [some (pm_r 0 0), some (pm_r 8 i1), some (pm_i v2)] [] (mm x R Z Y o A c G g) Q) : pW ns d 34 59 [some (pm_r 0 0), some (pm_r 8 i1), some (pm_i v2)] [] (mm x R Z Y o A c G g) Q := by
  refine b34_59 hR q1 (fun h1 => ?_) (fun h1 => ?_)
  · skip
    refine b34_74 hR q1  (fun h2 => ?_) (fun h2 => ?_)
    · skip
      exact b34_113 hR q1  (k1 h1 h2)
    · skip
      refine b34_81 hR q1  (fun h3 => ?_) (fun h3 => ?_)
      · skip
        exact b34_113 hR q1  (k2 h1 h2 h3)
      · skip
        exact (k3 h1 h2 h3)
  · skip
    exact (k4 h1)
set_option maxRecDepth 20000 in
theorem t34_81 (hR : RS R) {i1 : Nat} {v2 : Int32} (q1 : i1 < 8) (k1 : (nI 5 < v2) → pW ns d 34 12 [some (pm_r 0 0), some (pm_r 8 i1), some (pm_i (v2 + (nI 1)))] [] (mm x R Z Y o A c G g) Q) (k2 : (¬ (nI 5 < v2)) → pW ns d 34 86 [some (pm_r 0 0), some (pm_r 8 i1), some (pm_i v2)] [] (mm x R Z Y o A c G g) Q) : pW ns d 34 81 [some (pm_r 0 0), some (pm_r 8 i1), some (pm_i v2)] [] (mm x R Z Y o A c G g) Q := by
  refine b34_81 hR q1 (fun h1 => ?_) (fun h1 => ?_)
  · skip
    exact b34_113 hR q1  (k1 h1)
  · skip
    exact (k2 h1)
set_option maxRecDepth 20000 in
theorem t34_94 (hR : RS R) {i1 : Nat} {v2 : Int32} {vs0 : Int32} (q1 : i1 < 8) (k1 : (vs0 = 0) → pW ns d 34 97 [some (pm_r 0 0), some (pm_r 8 i1), some (pm_i v2)] [] (mm x R Z Y o A c G g) Q) (k2 : (¬ (vs0 = 0)) → pW ns d 34 12 [some (pm_r 0 0), some (pm_r 8 i1), some (pm_i (v2 + (nI 1)))] [] (mm x R Z Y o A c G g) Q) : pW ns d 34 94 [some (pm_r 0 0), some (pm_r 8 i1), some (pm_i v2)] [pm_i vs0] (mm x R Z Y o A c G g) Q := by
  refine b34_94 hR q1 (fun h1 => ?_) (fun h1 => ?_)
  · skip
    exact (k1 h1)
  · skip
    exact b34_113 hR q1  (k2 h1)
/-! 35 JobLayer.endTask -/
set_option maxRecDepth 20000 in
theorem b35_0 (hR : RS R) {i1 : Nat} {v2 : Int32} {u3 : Option pm_V} {u4 : Option pm_V} (q1 : i1 < 8) {x2 : Nat} {o2 : Int64} {A2 : Nat → Nat → Nat → Int32} {c2 : Nat → Int64} {G2 : Nat → Nat → Int32} {g2 : Nat → Int64} {j : Nat} (hE : pE ns d 25 [pm_r 0 0, pm_r 8 i1] (mm x R Z Y o A c G g) (.inl (some (pm_r 8 j)), (mm x2 R Z Y o2 A2 c2 G2 g2))) (k : pW ns d 35 5 [some (pm_r 0 0), some (pm_r 8 i1), some (pm_i v2), u3, u4] [pm_r 8 j] (mm x2 R Z Y o2 A2 c2 G2 g2) Q) : pW ns d 35 0 [some (pm_r 0 0), some (pm_r 8 i1), some (pm_i v2), u3, u4] [] (mm x R Z Y o A c G g) Q := by
  refine pW_call (pc' := 2) (r := []) (L' := [some (pm_r 0 0), some (pm_r 8 i1), some (pm_i v2), u3, u4]) 3 (fun call n => ?_) hE k
  exact Eq.trans (b := pm_g (mm x R Z Y o A c G g) 0 0 (pm_cl call 35 (pm_go call ns d 35 n) 2 25 [pm_r 0 0, pm_r 8 i1] [] [some (pm_r 0 0), some (pm_r 8 i1), some (pm_i v2), u3, u4] (mm x R Z Y o A c G g))) rfl (g_ok (f := 0) (by decide) rfl)
set_option maxRecDepth 20000 in
theorem b35_0n (hR : RS R) {i1 : Nat} {v2 : Int32} {u3 : Option pm_V} {u4 : Option pm_V} (q1 : i1 < 8) {x2 : Nat} {o2 : Int64} {A2 : Nat → Nat → Nat → Int32} {c2 : Nat → Int64} {G2 : Nat → Nat → Int32} {g2 : Nat → Int64}  (hE : pE ns d 25 [pm_r 0 0, pm_r 8 i1] (mm x R Z Y o A c G g) (.inl (some (pm_a none)), (mm x2 R Z Y o2 A2 c2 G2 g2))) (k : pW ns d 35 5 [some (pm_r 0 0), some (pm_r 8 i1), some (pm_i v2), u3, u4] [pm_a none] (mm x2 R Z Y o2 A2 c2 G2 g2) Q) : pW ns d 35 0 [some (pm_r 0 0), some (pm_r 8 i1), some (pm_i v2), u3, u4] [] (mm x R Z Y o A c G g) Q := by
  refine pW_call (pc' := 2) (r := []) (L' := [some (pm_r 0 0), some (pm_r 8 i1), some (pm_i v2), u3, u4]) 3 (fun call n => ?_) hE k
  exact Eq.trans (b := pm_g (mm x R Z Y o A c G g) 0 0 (pm_cl call 35 (pm_go call ns d 35 n) 2 25 [pm_r 0 0, pm_r 8 i1] [] [some (pm_r 0 0), some (pm_r 8 i1), some (pm_i v2), u3, u4] (mm x R Z Y o A c G g))) rfl (g_ok (f := 0) (by decide) rfl)
set_option maxRecDepth 20000 in
theorem b35_5 (hR : RS R) {i1 : Nat} {v2 : Int32} {u3 : Option pm_V} {u4 : Option pm_V} {is0 : Nat} (q1 : i1 < 8) (qs0 : is0 < 8) {x2 : Nat} {o2 : Int64} {A2 : Nat → Nat → Nat → Int32} {c2 : Nat → Int64} {G2 : Nat → Nat → Int32} {g2 : Nat → Int64}  (hE : pE ns d 111 [pm_r 8 i1, pm_i v2] (mm x R Z Y o A c G g) (.inl (none), (mm x2 R Z Y o2 A2 c2 G2 g2))) (k : pW ns d 35 17 [some (pm_r 0 0), some (pm_r 8 i1), some (pm_i v2), some (pm_r 8 is0), u4] [] (mm x2 R Z Y o2 A2 c2 G2 g2) Q) : pW ns d 35 5 [some (pm_r 0 0), some (pm_r 8 i1), some (pm_i v2), u3, u4] [pm_r 8 is0] (mm x R Z Y o A c G g) Q := by
  refine pW_call (pc' := 14) (r := []) (L' := [some (pm_r 0 0), some (pm_r 8 i1), some (pm_i v2), some (pm_r 8 is0), u4]) 6 (fun call n => ?_) hE k
  exact Eq.trans (b := pm_g (mm x R Z Y o A c G g) 8 i1 (pm_cl call 35 (pm_go call ns d 35 n) 14 111 [pm_r 8 i1, pm_i v2] [] [some (pm_r 0 0), some (pm_r 8 i1), some (pm_i v2), some (pm_r 8 is0), u4] (mm x R Z Y o A c G g))) rfl (g_ok (f := 8) q1 rfl)
set_option maxRecDepth 20000 in
theorem b35_5a (hR : RS R) {i1 : Nat} {v2 : Int32} {u3 : Option pm_V} {u4 : Option pm_V} (q1 : i1 < 8)  (k : Q (.inl (some (pm_a none)), (mm x R Z Y o A c G g))) : pW ns d 35 5 [some (pm_r 0 0), some (pm_r 8 i1), some (pm_i v2), u3, u4] [pm_a none] (mm x R Z Y o A c G g) Q := by
  refine pW_ret 5 (fun call n => ?_) k
  rfl
set_option maxRecDepth 20000 in
theorem b35_17 (hR : RS R) {i1 : Nat} {u2 : Option pm_V} {i3 : Nat} {u4 : Option pm_V} (q1 : i1 < 8) (q3 : i3 < 8)  (k : pW ns d 35 20 [some (pm_r 0 0), some (pm_r 8 i1), u2, some (pm_r 8 i3), some (pm_i (nI 0))] [] (mm x R Z Y o A c G g) Q) : pW ns d 35 17 [some (pm_r 0 0), some (pm_r 8 i1), u2, some (pm_r 8 i3), u4] [] (mm x R Z Y o A c G g) Q := by
  exact pW_eq 2 (fun call n => rfl) k
set_option maxRecDepth 20000 in
theorem b35_20 (hR : RS R) {i1 : Nat} {u2 : Option pm_V} {i3 : Nat} {v4 : Int32} (q1 : i1 < 8) (q3 : i3 < 8)  (k1 : nI 8 ≤ v4 → pW ns d 35 61 [some (pm_r 0 0), some (pm_r 8 i1), u2, some (pm_r 8 i3), some (pm_i v4)] [] (mm x R Z Y o A c G g) Q) (k2 : ¬ (nI 8 ≤ v4) → pW ns d 35 27 [some (pm_r 0 0), some (pm_r 8 i1), u2, some (pm_r 8 i3), some (pm_i v4)] [] (mm x R Z Y o A c G g) Q) : pW ns d 35 20 [some (pm_r 0 0), some (pm_r 8 i1), u2, some (pm_r 8 i3), some (pm_i v4)] [] (mm x R Z Y o A c G g) Q := by
  exact pW_if 3 (c := nI 8 ≤ v4) (fun call n => rfl) k1 k2
set_option maxRecDepth 20000 in
theorem b35_61 (hR : RS R) {u0 : Option pm_V} {i1 : Nat} {u2 : Option pm_V} {i3 : Nat} {u4 : Option pm_V} (q1 : i1 < 8) (q3 : i3 < 8)  (k1 : A 10 i3 7 = nI 1 → pW ns d 35 73 [u0, some (pm_r 8 i1), u2, some (pm_r 8 i3), u4] [pm_r 8 i1] (mm x R Z Y o A c G g) Q) (k2 : ¬ (A 10 i3 7 = nI 1) → pW ns d 35 77 [u0, some (pm_r 8 i1), u2, some (pm_r 8 i3), u4] [pm_r 8 i1] (mm x R Z Y o A c G g) Q) : pW ns d 35 61 [u0, some (pm_r 8 i1), u2, some (pm_r 8 i3), u4] [] (mm x R Z Y o A c G g) Q := by
  refine pW_eq 3 (pc' := 66) (L' := [u0, some (pm_r 8 i1), u2, some (pm_r 8 i3), u4]) (S' := [pm_r 10 i3, pm_r 8 i1]) (M' := (mm x R Z Y o A c G g)) (fun call n => ?_) ?_
  · refine Eq.trans (b := pm_g (mm x R Z Y o A c G g) 8 i3 (pm_go call ns d 35 n 66 [u0, some (pm_r 8 i1), u2, some (pm_r 8 i3), u4] [pm_a (R 8 i3 2), pm_r 8 i1] (mm x R Z Y o A c G g))) rfl ?_
    refine (g_ok (f := 8) q3 rfl).trans ?_
    exact (congrArg (fun z => pm_go call ns d 35 n 66 [u0, some (pm_r 8 i1), u2, some (pm_r 8 i3), u4] [pm_a z, pm_r 8 i1] (mm x R Z Y o A c G g)) (rs_8_2 hR q3))
  refine pW_eq 2 (pc' := 69) (L' := [u0, some (pm_r 8 i1), u2, some (pm_r 8 i3), u4]) (S' := [pm_i (A 10 i3 7), pm_r 8 i1]) (M' := (mm x R Z Y o A c G g)) (fun call n => ?_) ?_
  · refine Eq.trans (b := pm_g (mm x R Z Y o A c G g) 10 i3 (pm_ix (nI 7) 8 (fun jx => pm_go call ns d 35 n 69 [u0, some (pm_r 8 i1), u2, some (pm_r 8 i3), u4] [pm_i (A 10 i3 jx), pm_r 8 i1] (mm x R Z Y o A c G g)))) rfl ?_
    refine (g_ok (f := 10) q3 rfl).trans ?_
    refine (ix_ok (j := 7) rfl (by decide) (by decide)).trans ?_
    rfl
  exact pW_if 2 (c := A 10 i3 7 = nI 1) (fun call n => rfl) k1 k2
set_option maxRecDepth 20000 in
theorem b35_27 (hR : RS R) {i1 : Nat} {u2 : Option pm_V} {i3 : Nat} {v4 : Int32} {j1 : Nat} (q1 : i1 < 8) (q3 : i3 < 8) (e1 : v4 = nI j1) (l1 : j1 < 8)  (k1 : A 8 j1 7 = A 8 i1 0 → pW ns d 35 44 [some (pm_r 0 0), some (pm_r 8 i1), u2, some (pm_r 8 i3), some (pm_i v4)] [] (mm x R Z Y o A c G g) Q) (k2 : ¬ (A 8 j1 7 = A 8 i1 0) → pW ns d 35 55 [some (pm_r 0 0), some (pm_r 8 i1), u2, some (pm_r 8 i3), some (pm_i v4)] [] (mm x R Z Y o A c G g) Q) : pW ns d 35 27 [some (pm_r 0 0), some (pm_r 8 i1), u2, some (pm_r 8 i3), some (pm_i v4)] [] (mm x R Z Y o A c G g) Q := by
  refine pW_eq 2 (pc' := 31) (L' := [some (pm_r 0 0), some (pm_r 8 i1), u2, some (pm_r 8 i3), some (pm_i v4)]) (S' := [pm_r 1 0]) (M' := (mm x R Z Y o A c G g)) (fun call n => ?_) ?_
  · refine Eq.trans (b := pm_g (mm x R Z Y o A c G g) 0 0 (pm_go call ns d 35 n 31 [some (pm_r 0 0), some (pm_r 8 i1), u2, some (pm_r 8 i3), some (pm_i v4)] [pm_a (R 0 0 0)] (mm x R Z Y o A c G g))) rfl ?_
    refine (g_ok (f := 0) (by decide) rfl).trans ?_
    exact (congrArg (fun z => pm_go call ns d 35 n 31 [some (pm_r 0 0), some (pm_r 8 i1), u2, some (pm_r 8 i3), some (pm_i v4)] [pm_a z] (mm x R Z Y o A c G g)) (rs_0_0 hR))
  refine pW_eq 2 (pc' := 34) (L' := [some (pm_r 0 0), some (pm_r 8 i1), u2, some (pm_r 8 i3), some (pm_i v4)]) (S' := [pm_r 8 j1]) (M' := (mm x R Z Y o A c G g)) (fun call n => ?_) ?_
  · refine Eq.trans (b := pm_g (mm x R Z Y o A c G g) 1 0 (pm_ix (v4) 8 (fun jx => pm_go call ns d 35 n 34 [some (pm_r 0 0), some (pm_r 8 i1), u2, some (pm_r 8 i3), some (pm_i v4)] [pm_a (R 1 0 jx)] (mm x R Z Y o A c G g)))) rfl ?_
    refine (g_ok (f := 1) (by decide) rfl).trans ?_
    refine (ix_ok (j := j1) e1 l1 (by decide)).trans ?_
    exact (congrArg (fun z => pm_go call ns d 35 n 34 [some (pm_r 0 0), some (pm_r 8 i1), u2, some (pm_r 8 i3), some (pm_i v4)] [pm_a z] (mm x R Z Y o A c G g)) (rs_1 hR (k := j1) l1))
  refine pW_eq 1 (pc' := 37) (L' := [some (pm_r 0 0), some (pm_r 8 i1), u2, some (pm_r 8 i3), some (pm_i v4)]) (S' := [pm_i (A 8 j1 7)]) (M' := (mm x R Z Y o A c G g)) (fun call n => ?_) ?_
  · refine Eq.trans (b := pm_g (mm x R Z Y o A c G g) 8 j1 (pm_go call ns d 35 n 37 [some (pm_r 0 0), some (pm_r 8 i1), u2, some (pm_r 8 i3), some (pm_i v4)] [pm_i (A 8 j1 7)] (mm x R Z Y o A c G g))) rfl ?_
    refine (g_ok (f := 8) l1 rfl).trans ?_
    rfl
  refine pW_eq 2 (pc' := 41) (L' := [some (pm_r 0 0), some (pm_r 8 i1), u2, some (pm_r 8 i3), some (pm_i v4)]) (S' := [pm_i (A 8 i1 0), pm_i (A 8 j1 7)]) (M' := (mm x R Z Y o A c G g)) (fun call n => ?_) ?_
  · refine Eq.trans (b := pm_g (mm x R Z Y o A c G g) 8 i1 (pm_go call ns d 35 n 41 [some (pm_r 0 0), some (pm_r 8 i1), u2, some (pm_r 8 i3), some (pm_i v4)] [pm_i (A 8 i1 0), pm_i (A 8 j1 7)] (mm x R Z Y o A c G g))) rfl ?_
    refine (g_ok (f := 8) q1 rfl).trans ?_
    rfl
  exact pW_if 1 (c := A 8 j1 7 = A 8 i1 0) (fun call n => rfl) k1 k2
set_option maxRecDepth 20000 in
theorem b35_73 (hR : RS R) {u0 : Option pm_V} {u1 : Option pm_V} {u2 : Option pm_V} {i3 : Nat} {u4 : Option pm_V} {is0 : Nat} (q3 : i3 < 8) (qs0 : is0 < 8)  (k : Q (.inl (some (pm_r 8 i3)), (mm x R Z Y o (pm_u A 8 is0 6 (nI 0)) c G g))) : pW ns d 35 73 [u0, u1, u2, some (pm_r 8 i3), u4] [pm_r 8 is0] (mm x R Z Y o A c G g) Q := by
  refine pW_eq 3 (pc' := 81) (L' := [u0, u1, u2, some (pm_r 8 i3), u4]) (S' := []) (M' := (mm x R Z Y o (pm_u A 8 is0 6 (nI 0)) c G g)) (fun call n => ?_) ?_
  · refine Eq.trans (b := pm_g (mm x R Z Y o A c G g) 8 is0 (pm_go call ns d 35 n 81 [u0, u1, u2, some (pm_r 8 i3), u4] [] (pm_u (mA Z A G) 8 is0 6 (nI 0), mB Y o c g, R, pm_tot, x))) rfl ?_
    refine (g_ok (f := 8) qs0 rfl).trans ?_
    exact (congrArg (fun z => pm_go call ns d 35 n 81 [u0, u1, u2, some (pm_r 8 i3), u4] [] (z, mB Y o c g, R, pm_tot, x)) (uA (by decide)))
  refine pW_ret 2 (fun call n => ?_) k
  rfl
set_option maxRecDepth 20000 in
theorem b35_77 (hR : RS R) {u0 : Option pm_V} {u1 : Option pm_V} {u2 : Option pm_V} {i3 : Nat} {u4 : Option pm_V} {is0 : Nat} (q3 : i3 < 8) (qs0 : is0 < 8)  (k : Q (.inl (some (pm_r 8 i3)), (mm x R Z Y o (pm_u A 8 is0 6 (nI 4)) c G g))) : pW ns d 35 77 [u0, u1, u2, some (pm_r 8 i3), u4] [pm_r 8 is0] (mm x R Z Y o A c G g) Q := by
  refine pW_eq 2 (pc' := 81) (L' := [u0, u1, u2, some (pm_r 8 i3), u4]) (S' := []) (M' := (mm x R Z Y o (pm_u A 8 is0 6 (nI 4)) c G g)) (fun call n => ?_) ?_
  · refine Eq.trans (b := pm_g (mm x R Z Y o A c G g) 8 is0 (pm_go call ns d 35 n 81 [u0, u1, u2, some (pm_r 8 i3), u4] [] (pm_u (mA Z A G) 8 is0 6 (nI 4), mB Y o c g, R, pm_tot, x))) rfl ?_
    refine (g_ok (f := 8) qs0 rfl).trans ?_
    exact (congrArg (fun z => pm_go call ns d 35 n 81 [u0, u1, u2, some (pm_r 8 i3), u4] [] (z, mB Y o c g, R, pm_tot, x)) (uA (by decide)))
  refine pW_ret 2 (fun call n => ?_) k
  rfl
set_option maxRecDepth 20000 in
theorem b35_44 (hR : RS R) {i1 : Nat} {u2 : Option pm_V} {i3 : Nat} {v4 : Int32} {j1 : Nat} (q1 : i1 < 8) (q3 : i3 < 8) (e1 : v4 = nI j1) (l1 : j1 < 8)  (k : pW ns d 35 20 [some (pm_r 0 0), some (pm_r 8 i1), u2, some (pm_r 8 i3), some (pm_i (v4 + (nI 1)))] [] (mm x R Z Y o (pm_u A 8 j1 7 (nI 0)) c G g) Q) : pW ns d 35 44 [some (pm_r 0 0), some (pm_r 8 i1), u2, some (pm_r 8 i3), some (pm_i v4)] [] (mm x R Z Y o A c G g) Q := by
  refine pW_eq 2 (pc' := 48) (L' := [some (pm_r 0 0), some (pm_r 8 i1), u2, some (pm_r 8 i3), some (pm_i v4)]) (S' := [pm_r 1 0]) (M' := (mm x R Z Y o A c G g)) (fun call n => ?_) ?_
  · refine Eq.trans (b := pm_g (mm x R Z Y o A c G g) 0 0 (pm_go call ns d 35 n 48 [some (pm_r 0 0), some (pm_r 8 i1), u2, some (pm_r 8 i3), some (pm_i v4)] [pm_a (R 0 0 0)] (mm x R Z Y o A c G g))) rfl ?_
    refine (g_ok (f := 0) (by decide) rfl).trans ?_
    exact (congrArg (fun z => pm_go call ns d 35 n 48 [some (pm_r 0 0), some (pm_r 8 i1), u2, some (pm_r 8 i3), some (pm_i v4)] [pm_a z] (mm x R Z Y o A c G g)) (rs_0_0 hR))
  refine pW_eq 2 (pc' := 51) (L' := [some (pm_r 0 0), some (pm_r 8 i1), u2, some (pm_r 8 i3), some (pm_i v4)]) (S' := [pm_r 8 j1]) (M' := (mm x R Z Y o A c G g)) (fun call n => ?_) ?_
  · refine Eq.trans (b := pm_g (mm x R Z Y o A c G g) 1 0 (pm_ix (v4) 8 (fun jx => pm_go call ns d 35 n 51 [some (pm_r 0 0), some (pm_r 8 i1), u2, some (pm_r 8 i3), some (pm_i v4)] [pm_a (R 1 0 jx)] (mm x R Z Y o A c G g)))) rfl ?_
    refine (g_ok (f := 1) (by decide) rfl).trans ?_
    refine (ix_ok (j := j1) e1 l1 (by decide)).trans ?_
    exact (congrArg (fun z => pm_go call ns d 35 n 51 [some (pm_r 0 0), some (pm_r 8 i1), u2, some (pm_r 8 i3), some (pm_i v4)] [pm_a z] (mm x R Z Y o A c G g)) (rs_1 hR (k := j1) l1))
  refine pW_eq 2 (pc' := 55) (L' := [some (pm_r 0 0), some (pm_r 8 i1), u2, some (pm_r 8 i3), some (pm_i v4)]) (S' := []) (M' := (mm x R Z Y o (pm_u A 8 j1 7 (nI 0)) c G g)) (fun call n => ?_) ?_
  · refine Eq.trans (b := pm_g (mm x R Z Y o A c G g) 8 j1 (pm_go call ns d 35 n 55 [some (pm_r 0 0), some (pm_r 8 i1), u2, some (pm_r 8 i3), some (pm_i v4)] [] (pm_u (mA Z A G) 8 j1 7 (nI 0), mB Y o c g, R, pm_tot, x))) rfl ?_
    refine (g_ok (f := 8) l1 rfl).trans ?_
    exact (congrArg (fun z => pm_go call ns d 35 n 55 [some (pm_r 0 0), some (pm_r 8 i1), u2, some (pm_r 8 i3), some (pm_i v4)] [] (z, mB Y o c g, R, pm_tot, x)) (uA (by decide)))
  exact pW_eq 2 (fun call n => rfl) k
set_option maxRecDepth 20000 in
theorem b35_55 (hR : RS R) {i1 : Nat} {u2 : Option pm_V} {i3 : Nat} {v4 : Int32} (q1 : i1 < 8) (q3 : i3 < 8)  (k : pW ns d 35 20 [some (pm_r 0 0), some (pm_r 8 i1), u2, some (pm_r 8 i3), some (pm_i (v4 + (nI 1)))] [] (mm x R Z Y o A c G g) Q) : pW ns d 35 55 [some (pm_r 0 0), some (pm_r 8 i1), u2, some (pm_r 8 i3), some (pm_i v4)] [] (mm x R Z Y o A c G g) Q := by
  exact pW_eq 2 (fun call n => rfl) k
set_option maxRecDepth 20000 in
theorem t35_20 (hR : RS R) {i1 : Nat} {u2 : Option pm_V} {i3 : Nat} {v4 : Int32} (q1 : i1 < 8) (q3 : i3 < 8) (k1 : (nI 8 ≤ v4) → (A 10 i3 7 = nI 1) → Q (.inl (some (pm_r 8 i3)), (mm x R Z Y o (pm_u A 8 i1 6 (nI 0)) c G g))) (k2 : (nI 8 ≤ v4) → (¬ (A 10 i3 7 = nI 1)) → Q (.inl (some (pm_r 8 i3)), (mm x R Z Y o (pm_u A 8 i1 6 (nI 4)) c G g))) (k3 : (¬ (nI 8 ≤ v4)) → pW ns d 35 27 [some (pm_r 0 0), some (pm_r 8 i1), u2, some (pm_r 8 i3), some (pm_i v4)] [] (mm x R Z Y o A c G g) Q) : pW ns d 35 20 [some (pm_r 0 0), some (pm_r 8 i1), u2, some (pm_r 8 i3), some (pm_i v4)] [] (mm x R Z Y o A c G g) Q := by
  refine b35_20 hR q1 q3 (fun h1 => ?_) (fun h1 => ?_)
  · skip
    refine b35_61 hR q1 q3  (fun h2 => ?_) (fun h2 => ?_)
    · skip
      exact b35_73 hR q3 q1  (k1 h1 h2)
    · skip
      exact b35_77 hR q3 q1  (k2 h1 h2)
  · skip
    exact (k3 h1)
set_option maxRecDepth 20000 in
theorem t35_61 (hR : RS R) {u0 : Option pm_V} {i1 : Nat} {u2 : Option pm_V} {i3 : Nat} {u4 : Option pm_V} (q1 : i1 < 8) (q3 : i3 < 8) (k1 : (A 10 i3 7 = nI 1) → Q (.inl (some (pm_r 8 i3)), (mm x R Z Y o (pm_u A 8 i1 6 (nI 0)) c G g))) (k2 : (¬ (A 10 i3 7 = nI 1)) → Q (.inl (some (pm_r 8 i3)), (mm x R Z Y o (pm_u A 8 i1 6 (nI 4)) c G g))) : pW ns d 35 61 [u0, some (pm_r 8 i1), u2, some (pm_r 8 i3), u4] [] (mm x R Z Y o A c G g) Q := by
  refine b35_61 hR q1 q3 (fun h1 => ?_) (fun h1 => ?_)
  · skip
    exact b35_73 hR q3 q1  (k1 h1)
  · skip
    exact b35_77 hR q3 q1  (k2 h1)
set_option maxRecDepth 20000 in
theorem t35_27 (hR : RS R) {i1 : Nat} {u2 : Option pm_V} {i3 : Nat} {v4 : Int32} {j1 : Nat} (q1 : i1 < 8) (q3 : i3 < 8) (e1 : v4 = nI j1) (l1 : j1 < 8) (k1 : (A 8 j1 7 = A 8 i1 0) → pW ns d 35 20 [some (pm_r 0 0), some (pm_r 8 i1), u2, some (pm_r 8 i3), some (pm_i (v4 + (nI 1)))] [] (mm x R Z Y o (pm_u A 8 j1 7 (nI 0)) c G g) Q) (k2 : (¬ (A 8 j1 7 = A 8 i1 0)) → pW ns d 35 20 [some (pm_r 0 0), some (pm_r 8 i1), u2, some (pm_r 8 i3), some (pm_i (v4 + (nI 1)))] [] (mm x R Z Y o A c G g) Q) : pW ns d 35 27 [some (pm_r 0 0), some (pm_r 8 i1), u2, some (pm_r 8 i3), some (pm_i v4)] [] (mm x R Z Y o A c G g) Q := by
  refine b35_27 hR q1 q3 e1 l1 (fun h1 => ?_) (fun h1 => ?_)
  · skip
    exact b35_44 hR q1 q3 e1 l1 (k1 h1)
  · skip
    exact b35_55 hR q1 q3  (k2 h1)
/-! 36 JobLayer.begin -/
set_option maxRecDepth 20000 in
theorem b36_0 (hR : RS R) {i1 : Nat} {u2 : Option pm_V} (q1 : i1 < 8) {x2 : Nat} {o2 : Int64} {A2 : Nat → Nat → Nat → Int32} {c2 : Nat → Int64} {G2 : Nat → Nat → Int32} {g2 : Nat → Int64} {y : Int32} (hE : pE ns d 40 [pm_r 0 0, pm_r 8 i1] (mm x R Z Y o A c G g) (.inl (some (pm_i y)), (mm x2 R Z Y o2 A2 c2 G2 g2))) (k : pW ns d 36 5 [some (pm_r 0 0), some (pm_r 8 i1), u2] [pm_i y] (mm x2 R Z Y o2 A2 c2 G2 g2) Q) : pW ns d 36 0 [some (pm_r 0 0), some (pm_r 8 i1), u2] [] (mm x R Z Y o A c G g) Q := by
  refine pW_call (pc' := 2) (r := []) (L' := [some (pm_r 0 0), some (pm_r 8 i1), u2]) 3 (fun call n => ?_) hE k
  exact Eq.trans (b := pm_g (mm x R Z Y o A c G g) 0 0 (pm_cl call 36 (pm_go call ns d 36 n) 2 40 [pm_r 0 0, pm_r 8 i1] [] [some (pm_r 0 0), some (pm_r 8 i1), u2] (mm x R Z Y o A c G g))) rfl (g_ok (f := 0) (by decide) rfl)
set_option maxRecDepth 20000 in
theorem b36_5 (hR : RS R) {i1 : Nat} {u2 : Option pm_V} {vs0 : Int32} (q1 : i1 < 8)  (k1 : vs0 = -nI 9 → pW ns d 36 18 [some (pm_r 0 0), some (pm_r 8 i1), some (pm_i vs0)] [] (mm x R Z Y o A c G g) Q) (k2 : ¬ (vs0 = -nI 9) → pW ns d 36 12 [some (pm_r 0 0), some (pm_r 8 i1), some (pm_i vs0)] [] (mm x R Z Y o A c G g) Q) : pW ns d 36 5 [some (pm_r 0 0), some (pm_r 8 i1), u2] [pm_i vs0] (mm x R Z Y o A c G g) Q := by
  exact pW_if 4 (c := vs0 = -nI 9) (fun call n => rfl) k1 k2
set_option maxRecDepth 20000 in
theorem b36_18 (hR : RS R) {i1 : Nat} {u2 : Option pm_V} (q1 : i1 < 8) {x2 : Nat} {o2 : Int64} {A2 : Nat → Nat → Nat → Int32} {c2 : Nat → Int64} {G2 : Nat → Nat → Int32} {g2 : Nat → Int64}  (hE : pE ns d 121 [pm_r 8 i1, pm_i ((pm_u A 0 0 3 ((A 0 0 3) + (nI 1))) 0 0 3)] (mm x R Z Y o (pm_u A 0 0 3 ((A 0 0 3) + (nI 1))) c G g) (.inl (none), (mm x2 R Z Y o2 A2 c2 G2 g2))) (k : pW ns d 36 36 [some (pm_r 0 0), some (pm_r 8 i1), u2] [] (mm x2 R Z Y o2 A2 c2 G2 g2) Q) : pW ns d 36 18 [some (pm_r 0 0), some (pm_r 8 i1), u2] [] (mm x R Z Y o A c G g) Q := by
  refine pW_eq 3 (pc' := 23) (L' := [some (pm_r 0 0), some (pm_r 8 i1), u2]) (S' := [pm_i (A 0 0 3), pm_r 0 0]) (M' := (mm x R Z Y o A c G g)) (fun call n => ?_) ?_
  · refine Eq.trans (b := pm_g (mm x R Z Y o A c G g) 0 0 (pm_go call ns d 36 n 23 [some (pm_r 0 0), some (pm_r 8 i1), u2] [pm_i (A 0 0 3), pm_r 0 0] (mm x R Z Y o A c G g))) rfl ?_
    refine (g_ok (f := 0) (by decide) rfl).trans ?_
    rfl
  refine pW_eq 3 (pc' := 28) (L' := [some (pm_r 0 0), some (pm_r 8 i1), u2]) (S' := []) (M' := (mm x R Z Y o (pm_u A 0 0 3 ((A 0 0 3) + (nI 1))) c G g)) (fun call n => ?_) ?_
  · refine Eq.trans (b := pm_g (mm x R Z Y o A c G g) 0 0 (pm_go call ns d 36 n 28 [some (pm_r 0 0), some (pm_r 8 i1), u2] [] (pm_u (mA Z A G) 0 0 3 ((A 0 0 3) + (nI 1)), mB Y o c g, R, pm_tot, x))) rfl ?_
    refine (g_ok (f := 0) (by decide) rfl).trans ?_
    exact (congrArg (fun z => pm_go call ns d 36 n 28 [some (pm_r 0 0), some (pm_r 8 i1), u2] [] (z, mB Y o c g, R, pm_tot, x)) (uA (by decide)))
  refine pW_eq 3 (pc' := 33) (L' := [some (pm_r 0 0), some (pm_r 8 i1), u2]) (S' := [pm_i ((pm_u A 0 0 3 ((A 0 0 3) + (nI 1))) 0 0 3), pm_r 8 i1]) (M' := (mm x R Z Y o (pm_u A 0 0 3 ((A 0 0 3) + (nI 1))) c G g)) (fun call n => ?_) ?_
  · refine Eq.trans (b := pm_g (mm x R Z Y o (pm_u A 0 0 3 ((A 0 0 3) + (nI 1))) c G g) 0 0 (pm_go call ns d 36 n 33 [some (pm_r 0 0), some (pm_r 8 i1), u2] [pm_i ((pm_u A 0 0 3 ((A 0 0 3) + (nI 1))) 0 0 3), pm_r 8 i1] (mm x R Z Y o (pm_u A 0 0 3 ((A 0 0 3) + (nI 1))) c G g))) rfl ?_
    refine (g_ok (f := 0) (by decide) rfl).trans ?_
    rfl
  refine pW_call (pc' := 33) (r := []) (L' := [some (pm_r 0 0), some (pm_r 8 i1), u2]) 1 (fun call n => ?_) hE k
  exact Eq.trans (b := pm_g (mm x R Z Y o (pm_u A 0 0 3 ((A 0 0 3) + (nI 1))) c G g) 8 i1 (pm_cl call 36 (pm_go call ns d 36 n) 33 121 [pm_r 8 i1, pm_i ((pm_u A 0 0 3 ((A 0 0 3) + (nI 1))) 0 0 3)] [] [some (pm_r 0 0), some (pm_r 8 i1), u2] (mm x R Z Y o (pm_u A 0 0 3 ((A 0 0 3) + (nI 1))) c G g))) rfl (g_ok (f := 8) q1 rfl)
set_option maxRecDepth 20000 in
theorem b36_12 (hR : RS R) {i1 : Nat} {v2 : Int32} (q1 : i1 < 8)  (k1 : v2 = -nI 10 → pW ns d 36 18 [some (pm_r 0 0), some (pm_r 8 i1), some (pm_i v2)] [] (mm x R Z Y o A c G g) Q) (k2 : ¬ (v2 = -nI 10) → pW ns d 36 42 [some (pm_r 0 0), some (pm_r 8 i1), some (pm_i v2)] [] (mm x R Z Y o A c G g) Q) : pW ns d 36 12 [some (pm_r 0 0), some (pm_r 8 i1), some (pm_i v2)] [] (mm x R Z Y o A c G g) Q := by
  exact pW_if 3 (c := v2 = -nI 10) (fun call n => rfl) k1 k2
set_option maxRecDepth 20000 in
theorem b36_36 (hR : RS R) {u0 : Option pm_V} {i1 : Nat} {u2 : Option pm_V} (q1 : i1 < 8)  (k : Q (.inl (some (pm_i (-nI 9))), (mm x R Z Y o A c G g))) : pW ns d 36 36 [u0, some (pm_r 8 i1), u2] [] (mm x R Z Y o A c G g) Q := by
  refine pW_ret 5 (fun call n => ?_) k
  rfl
set_option maxRecDepth 20000 in
theorem b36_42 (hR : RS R) {i1 : Nat} {v2 : Int32} (q1 : i1 < 8)  (k1 : v2 = -nI 6 → pW ns d 36 56 [some (pm_r 0 0), some (pm_r 8 i1), some (pm_i v2)] [] (mm x R Z Y o (pm_u A 13 i1 0 (nI 0)) c G g) Q) (k2 : ¬ (v2 = -nI 6) → pW ns d 36 63 [some (pm_r 0 0), some (pm_r 8 i1), some (pm_i v2)] [] (mm x R Z Y o (pm_u A 13 i1 0 (nI 0)) c G g) Q) : pW ns d 36 42 [some (pm_r 0 0), some (pm_r 8 i1), some (pm_i v2)] [] (mm x R Z Y o A c G g) Q := by
  refine pW_eq 2 (pc' := 46) (L' := [some (pm_r 0 0), some (pm_r 8 i1), some (pm_i v2)]) (S' := [pm_r 13 i1]) (M' := (mm x R Z Y o A c G g)) (fun call n => ?_) ?_
  · refine Eq.trans (b := pm_g (mm x R Z Y o A c G g) 8 i1 (pm_go call ns d 36 n 46 [some (pm_r 0 0), some (pm_r 8 i1), some (pm_i v2)] [pm_a (R 8 i1 5)] (mm x R Z Y o A c G g))) rfl ?_
    refine (g_ok (f := 8) q1 rfl).trans ?_
    exact (congrArg (fun z => pm_go call ns d 36 n 46 [some (pm_r 0 0), some (pm_r 8 i1), some (pm_i v2)] [pm_a z] (mm x R Z Y o A c G g)) (rs_8_5 hR q1))
  refine pW_eq 2 (pc' := 50) (L' := [some (pm_r 0 0), some (pm_r 8 i1), some (pm_i v2)]) (S' := []) (M' := (mm x R Z Y o (pm_u A 13 i1 0 (nI 0)) c G g)) (fun call n => ?_) ?_
  · refine Eq.trans (b := pm_g (mm x R Z Y o A c G g) 13 i1 (pm_go call ns d 36 n 50 [some (pm_r 0 0), some (pm_r 8 i1), some (pm_i v2)] [] (pm_u (mA Z A G) 13 i1 0 (nI 0), mB Y o c g, R, pm_tot, x))) rfl ?_
    refine (g_ok (f := 13) q1 rfl).trans ?_
    exact (congrArg (fun z => pm_go call ns d 36 n 50 [some (pm_r 0 0), some (pm_r 8 i1), some (pm_i v2)] [] (z, mB Y o c g, R, pm_tot, x)) (uA (by decide)))
  exact pW_if 3 (c := v2 = -nI 6) (fun call n => rfl) k1 k2
set_option maxRecDepth 20000 in
theorem b36_56 (hR : RS R) {i1 : Nat} {v2 : Int32} (q1 : i1 < 8) {x2 : Nat} {o2 : Int64} {A2 : Nat → Nat → Nat → Int32} {c2 : Nat → Int64} {G2 : Nat → Nat → Int32} {g2 : Nat → Int64} {y : Int32} (hE : pE ns d 33 [pm_r 0 0, pm_r 8 i1, pm_i (nI 2)] (mm x R Z Y o A c G g) (.inl (some (pm_i y)), (mm x2 R Z Y o2 A2 c2 G2 g2))) (k : pW ns d 36 62 [some (pm_r 0 0), some (pm_r 8 i1), some (pm_i v2)] [pm_i y] (mm x2 R Z Y o2 A2 c2 G2 g2) Q) : pW ns d 36 56 [some (pm_r 0 0), some (pm_r 8 i1), some (pm_i v2)] [] (mm x R Z Y o A c G g) Q := by
  refine pW_call (pc' := 59) (r := []) (L' := [some (pm_r 0 0), some (pm_r 8 i1), some (pm_i v2)]) 4 (fun call n => ?_) hE k
  exact Eq.trans (b := pm_g (mm x R Z Y o A c G g) 0 0 (pm_cl call 36 (pm_go call ns d 36 n) 59 33 [pm_r 0 0, pm_r 8 i1, pm_i (nI 2)] [] [some (pm_r 0 0), some (pm_r 8 i1), some (pm_i v2)] (mm x R Z Y o A c G g))) rfl (g_ok (f := 0) (by decide) rfl)
set_option maxRecDepth 20000 in
theorem b36_63 (hR : RS R) {u0 : Option pm_V} {u1 : Option pm_V} {v2 : Int32}   (k : Q (.inl (some (pm_i v2)), (mm x R Z Y o A c G g))) : pW ns d 36 63 [u0, u1, some (pm_i v2)] [] (mm x R Z Y o A c G g) Q := by
  refine pW_ret 2 (fun call n => ?_) k
  rfl
set_option maxRecDepth 20000 in
theorem b36_62 (hR : RS R) {u0 : Option pm_V} {u1 : Option pm_V} {v2 : Int32} {vs0 : Int32}   (k : Q (.inl (some (pm_i v2)), (mm x R Z Y o A c G g))) : pW ns d 36 62 [u0, u1, some (pm_i v2)] [pm_i vs0] (mm x R Z Y o A c G g) Q := by
  refine pW_ret 3 (fun call n => ?_) k
  rfl
set_option maxRecDepth 20000 in
theorem t36_5 (hR : RS R) {i1 : Nat} {u2 : Option pm_V} {vs0 : Int32} (q1 : i1 < 8) (k1 : (vs0 = -nI 9) → pW ns d 36 18 [some (pm_r 0 0), some (pm_r 8 i1), some (pm_i vs0)] [] (mm x R Z Y o A c G g) Q) (k2 : (¬ (vs0 = -nI 9)) → (vs0 = -nI 10) → pW ns d 36 18 [some (pm_r 0 0), some (pm_r 8 i1), some (pm_i vs0)] [] (mm x R Z Y o A c G g) Q) (k3 : (¬ (vs0 = -nI 9)) → (¬ (vs0 = -nI 10)) → (vs0 = -nI 6) → pW ns d 36 56 [some (pm_r 0 0), some (pm_r 8 i1), some (pm_i vs0)] [] (mm x R Z Y o (pm_u A 13 i1 0 (nI 0)) c G g) Q) (k4 : (¬ (vs0 = -nI 9)) → (¬ (vs0 = -nI 10)) → (¬ (vs0 = -nI 6)) → Q (.inl (some (pm_i vs0)), (mm x R Z Y o (pm_u A 13 i1 0 (nI 0)) c G g))) : pW ns d 36 5 [some (pm_r 0 0), some (pm_r 8 i1), u2] [pm_i vs0] (mm x R Z Y o A c G g) Q := by
  refine b36_5 hR q1 (fun h1 => ?_) (fun h1 => ?_)
  · skip
    exact (k1 h1)
  · skip
    refine b36_12 hR q1  (fun h2 => ?_) (fun h2 => ?_)
    · skip
      exact (k2 h1 h2)
    · skip
      refine b36_42 hR q1  (fun h3 => ?_) (fun h3 => ?_)
      · skip
        exact (k3 h1 h2 h3)
      · skip
        exact b36_63 hR   (k4 h1 h2 h3)
set_option maxRecDepth 20000 in
theorem t36_12 (hR : RS R) {i1 : Nat} {v2 : Int32} (q1 : i1 < 8) (k1 : (v2 = -nI 10) → pW ns d 36 18 [some (pm_r 0 0), some (pm_r 8 i1), some (pm_i v2)] [] (mm x R Z Y o A c G g) Q) (k2 : (¬ (v2 = -nI 10)) → (v2 = -nI 6) → pW ns d 36 56 [some (pm_r 0 0), some (pm_r 8 i1), some (pm_i v2)] [] (mm x R Z Y o (pm_u A 13 i1 0 (nI 0)) c G g) Q) (k3 : (¬ (v2 = -nI 10)) → (¬ (v2 = -nI 6)) → Q (.inl (some (pm_i v2)), (mm x R Z Y o (pm_u A 13 i1 0 (nI 0)) c G g))) : pW ns d 36 12 [some (pm_r 0 0), some (pm_r 8 i1), some (pm_i v2)] [] (mm x R Z Y o A c G g) Q := by
  refine b36_12 hR q1 (fun h1 => ?_) (fun h1 => ?_)
  · skip
    exact (k1 h1)
  · skip
    refine b36_42 hR q1  (fun h2 => ?_) (fun h2 => ?_)
    · skip
      exact (k2 h1 h2)
    · skip
      exact b36_63 hR   (k3 h1 h2)
set_option maxRecDepth 20000 in
theorem t36_42 (hR : RS R) {i1 : Nat} {v2 : Int32} (q1 : i1 < 8) (k1 : (v2 = -nI 6) → pW ns d 36 56 [some (pm_r 0 0), some (pm_r 8 i1), some (pm_i v2)] [] (mm x R Z Y o (pm_u A 13 i1 0 (nI 0)) c G g) Q) (k2 : (¬ (v2 = -nI 6)) → Q (.inl (some (pm_i v2)), (mm x R Z Y o (pm_u A 13 i1 0 (nI 0)) c G g))) : pW ns d 36 42 [some (pm_r 0 0), some (pm_r 8 i1), some (pm_i v2)] [] (mm x R Z Y o A c G g) Q := by
  refine b36_42 hR q1 (fun h1 => ?_) (fun h1 => ?_)
  · skip
    exact (k1 h1)
  · skip
    exact b36_63 hR   (k2 h1)
end BLK
