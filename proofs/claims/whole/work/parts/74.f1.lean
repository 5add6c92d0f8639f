/-! @73.r1@ what signals do, as functions of the reference's memory -/
def tellF (G : Nat → Nat → Int32) (p : Nat) : Nat → Nat → Int32 :=
  if G 33 (8 * p + 7) = nI 2 then (if G 21 p = nI 3 ∨ ((G 24 p) >>> (nI 7 &&& 31)) &&& nI 1 = nI 1 then pm_v G 25 p (G 25 p ||| nI 128) else hearF G p (nI 7)) else G
def haltF (G : Nat → Nat → Int32) (p : Nat) : Nat → Nat → Int32 := tellF (pm_v (pm_v (pm_v G 30 p (G 21 p)) 21 p (nI 3)) 31 p (nI 0)) (pa G p)
def fz (G : Nat → Nat → Int32) (p : Nat) : Nat → Nat → Int32 := fun f k => if f = 32 ∧ 6 * p ≤ k ∧ k < 6 * p + 6 then nI 0 else G f k
def rp (G : Nat → Nat → Int32) (p : Nat) : Nat → Nat → Int32 := fun f k => if f = 22 ∧ 1 ≤ k ∧ k < 8 ∧ ¬ G 21 k = 0 ∧ G 22 k = nI p then nI 0 else G f k
def endF (G : Nat → Nat → Int32) (p : Nat) (how : Int32) : Nat → Nat → Int32 := pm_v (pm_v (pm_v (pm_v (rp (fz G p) p) 21 p (if G 33 (8 * pa G p + 7) = nI 1 then nI 0 else nI 4)) 29 p how) 25 p (nI 0)) 34 p (nI 0)
def finishF (G : Nat → Nat → Int32) (p : Nat) (how : Int32) : Nat → Nat → Int32 := tellF (endF G p how) (pa G p)
def byDefF (G : Nat → Nat → Int32) (p s : Nat) : Nat → Nat → Int32 :=
  if p = 0 then G else if s < 4 then finishF G p (nI (64 + s)) else if s < 6 ∧ orph G (G 23 p) = false then haltF G p else G
def due (G : Nat → Nat → Int32) (p s : Nat) : Bool := !decide ((((G 25 p) &&& ((G 24 p) ^^^ (-nI 1))) &&& ((nI 1) <<< (nI s &&& 31))) = 0)
def fgt (G : Nat → Nat → Int32) (p s : Nat) : Nat → Nat → Int32 := pm_v G 25 p ((G 25 p) &&& (((nI 1) <<< (nI s &&& 31)) ^^^ (-nI 1)))
def dst (G : Nat → Nat → Int32) (p s : Nat) : Nat → Nat → Int32 :=
  if (G 21 p = nI 1 ∨ G 21 p = nI 2) ∧ due G p s = true then (if G 33 (8 * p + s) = nI 2 then hearF (fgt G p s) p (nI s) else if G 33 (8 * p + s) = 0 then byDefF (fgt G p s) p s else fgt G p s) else G
def delN (G : Nat → Nat → Int32) (p s : Nat) : Nat → Nat → Nat → Int32
  | 0 => G
  | n + 1 => delN (dst G p s) p (s + 1) n
def delF (G : Nat → Nat → Int32) (p : Nat) : Nat → Nat → Int32 := delN G p 1 7
/-- a signal comes, before anything is delivered -/
def ad1 (G : Nat → Nat → Int32) (p s : Nat) : Nat → Nat → Int32 :=
  if s = 6 then (if G 21 p = nI 3 then pm_v (pm_v G 25 p (G 25 p &&& -nI 49)) 21 p (G 30 p) else pm_v G 25 p (G 25 p &&& -nI 49))
  else if s = 4 ∨ s = 5 then pm_v G 25 p (G 25 p &&& -nI 65) else G
def stp (G : Nat → Nat → Int32) (p s : Nat) : Bool := !decide (G 33 (8 * p + s) = nI 1) && (decide (G 33 (8 * p + s) = nI 2) || decide (s < 6))
def admF (G : Nat → Nat → Int32) (p s : Nat) : Nat → Nat → Int32 :=
  if stp G p s = true then pm_v (ad1 G p s) 25 p (ad1 G p s 25 p ||| ((nI 1) <<< (nI s &&& 31))) else ad1 G p s
def comF (G : Nat → Nat → Int32) (p s : Nat) : Nat → Nat → Int32 :=
  if lv G p = true then (if s = 8 then (if p = 0 then G else finishF G p (nI 72)) else delF (admF G p s) p) else G
def cpN (G : Nat → Nat → Int32) (q : Int32) (s k : Nat) : Nat → Nat → Nat → Int32
  | 0 => G
  | n + 1 => cpN (if lv G k = true ∧ G 23 k = q then comF G k s else G) q s (k + 1) n
def cpF (G : Nat → Nat → Int32) (q : Int32) (s : Nat) : Nat → Nat → Int32 := cpN G q s 0 8
/-! bits -/
def bt (x : Int32) (s : Nat) : Bool := x.toBitVec.getLsbD s
theorem bit1 {s : Nat} (h : s < 8) : ((nI 1) <<< (nI s &&& 31)).toBitVec = BitVec.twoPow 32 s := by
  revert s
  decide
theorem bt_and (x y : Int32) (s : Nat) : bt (x &&& y) s = (bt x s && bt y s) := by simp [bt]
theorem bt_or (x y : Int32) (s : Nat) : bt (x ||| y) s = (bt x s || bt y s) := by simp [bt]
theorem bt_not (y : Int32) {s : Nat} (h : s < 32) : bt (y ^^^ (-nI 1)) s = !bt y s := by
  have e : (-nI 1).toBitVec = BitVec.allOnes 32 := by decide
  simp only [bt, Int32.toBitVec_xor, e, BitVec.getLsbD_xor, BitVec.getLsbD_allOnes, h, decide_true, Bool.xor_true]
theorem bt_bit {s t : Nat} (h : s < 8) : bt ((nI 1) <<< (nI s &&& 31)) t = decide (s = t) := by
  rw [bt, bit1 h, BitVec.getLsbD_twoPow]
  by_cases e : s = t
  · subst e
    simp
    omega
  · simp [e]
theorem and_bit {x : Int32} {s : Nat} (h : s < 8) : x &&& ((nI 1) <<< (nI s &&& 31)) = 0 ↔ bt x s = false := by
  rw [← Int32.toBitVec_inj, Int32.toBitVec_and, bit1 h, BitVec.and_twoPow]
  unfold bt
  cases hb : x.toBitVec.getLsbD s with
  | false => simp
  | true =>
    simp only [if_true]
    constructor
    · intro e
      have := congrArg (fun z => z.getLsbD s) e
      simp at this
      omega
    · intro e
      cases e
theorem due_iff {G : Nat → Nat → Int32} {p s : Nat} (h : s < 8) : due G p s = (bt (G 25 p) s && !bt (G 24 p) s) := by
  unfold due
  have e := and_bit (x := (G 25 p) &&& ((G 24 p) ^^^ (-nI 1))) h
  rw [bt_and, bt_not _ (by omega)] at e
  cases hb : (bt (G 25 p) s && !bt (G 24 p) s) with
  | false => simp [e, hb]
  | true => simp [e, hb]
theorem shr_bit {x : Int32} {s : Nat} (h : s = 7 ∨ s = 5) : (x >>> (nI s &&& 31)) &&& nI 1 = nI 1 ↔ bt x s = true := by
  have e1 : (nI 1) = (nI 1) <<< (nI 0 &&& 31) := by decide
  have e : (x >>> (nI s &&& 31)) &&& nI 1 = 0 ↔ bt (x >>> (nI s &&& 31)) 0 = false := by
    rw [e1]
    exact and_bit (by decide)
  have e2 : bt (x >>> (nI s &&& 31)) 0 = bt x s := by
    rcases h with rfl | rfl <;> simp [bt, nI, BitVec.getElem_sshiftRight]
  have e3 : (x >>> (nI s &&& 31)) &&& nI 1 = 0 ∨ (x >>> (nI s &&& 31)) &&& nI 1 = nI 1 := by
    have e4 : (nI 1).toBitVec = BitVec.twoPow 32 0 := by decide
    by_cases hh : (x >>> (nI s &&& 31)).toBitVec.getLsbD 0 = true
    · right
      rw [← Int32.toBitVec_inj, Int32.toBitVec_and, e4, BitVec.and_twoPow, if_pos hh]
    · left
      rw [← Int32.toBitVec_inj, Int32.toBitVec_and, e4, BitVec.and_twoPow, if_neg hh]
      rfl
  constructor
  · intro h1
    cases hb : bt x s with
    | true => rfl
    | false =>
      rw [← e2] at hb
      rw [e.mpr hb] at h1
      revert h1
      decide
  · intro h1
    rcases e3 with h2 | h2
    · rw [e, e2, h1] at h2
      cases h2
    · exact h2
