/-! PURE: shares -/
def shc (V : Vw) (i x y a n : Int) : Int := Sm (fun c => if (V 2 i 0 ≠ 3 ∨ (c ≠ x ∧ c ≠ y)) ∧ V 4 c i = a then 1 else 0) n
def sh (V : Vw) (i x y a : Int) : Int := if V 2 i 0 = 0 then 1 else if V 2 i 0 = 1 then V 3 i a else 1 + shc V i x y a (V 0 1 0)
theorem shc_bd (V : Vw) (i x y a : Int) {n : Int} (hn : 0 ≤ n) : 0 ≤ shc V i x y a n ∧ shc V i x y a n ≤ n := by
  have := Sm_bd (f := fun c => if (V 2 i 0 ≠ 3 ∨ (c ≠ x ∧ c ≠ y)) ∧ V 4 c i = a then 1 else 0) 0 1 hn (fun c _ _ => by split <;> omega)
  unfold shc
  omega
theorem sh_bd {V : Vw} (K : okVw V) {i x y a : Int} (hi : 0 ≤ i ∧ i < 8) (ha : 0 ≤ a ∧ a < 4) : 1 ≤ sh V i x y a ∧ sh V i x y a ≤ 9 := by
  have hm := K.m
  have h1 := shc_bd V i x y a hm.1
  have h2 := K.pt i a hi.1 hi.2 ha.1 ha.2
  unfold sh
  (repeat' split) <;> omega
section Share
variable {o r : Int} {h : HP} {V : Vw}
def sq (V : Vw) (i x y a : Int) : Int := sh V i x y a * sh V i x y a
theorem sq_bd (K : okVw V) {i x y a : Int} (hi : 0 ≤ i ∧ i < 8) (ha : 0 ≤ a ∧ a < 4) : 0 ≤ sq V i x y a ∧ sq V i x y a ≤ 81 := by
  have hb := sh_bd K (x := x) (y := y) hi (a := a) ha
  have h2 := Int.mul_le_mul hb.2 hb.2 (by omega) (by omega)
  have h3 := Int.mul_nonneg (show 0 ≤ sh V i x y a by omega) (show 0 ≤ sh V i x y a by omega)
  unfold sq
  omega
/-- the heap after shares of item i are taken, with their sum and the sum of their squares -/
def Ts (V : Vw) (o i x y k : Int) (h : HP) : HP := fun p j => if p = o ∧ (j = 1 ∨ j = 2) then (if j = 1 then Sm (sh V i x y) k else Sm (sq V i x y) k) else if p = o + 1 ∧ 0 ≤ j ∧ j < 4 then sh V i x y j else h p j
theorem X_sum (K : okVw V) {i x y : Int} (hi : 0 ≤ i ∧ i < 8) (hs : ∀ j, 0 ≤ j → j < 4 → h (o + 1) j = sh V i x y j) : m_Odds_takeShares_J90 o h = some (Ts V o i x y 4 h) := by
  unfold m_Odds_takeShares_J90 m_Odds_takeShares_L103
  simp only [bv_some]
  refine loop_seq (fun k => (k, Ts V o i x y k h)) 0 4 (by omega) (by omega) ?_ (fun k h0 h1 => ?_) ?_
  · refine pr_eq ?_
    funext p j
    unfold Ts upd2
    rw [Sm_0, Sm_0]
    ((try dsimp only); repeat' split) <;> first | rfl | (exfalso; omega) | (rw [show p = o + 1 by omega]; exact hs j (by omega) (by omega))
  · have hb := Sm_bd (f := sh V i x y) 1 9 h0 (fun a b c => sh_bd K hi ⟨b, by omega⟩)
    have hk := sh_bd K (x := x) (y := y) hi (a := k) ⟨h0, h1⟩
    have hb2 := Sm_bd (f := sq V i x y) 0 81 h0 (fun a b c => sq_bd K hi ⟨b, by omega⟩)
    have hk2 := sq_bd K (x := x) (y := y) hi (a := k) ⟨h0, h1⟩
    have e1 : Ts V o i x y k h o 1 = Sm (sh V i x y) k := by
      unfold Ts
      rw [if_pos (by omega), if_pos rfl]
    have e3 : Ts V o i x y k h o 2 = Sm (sq V i x y) k := by
      unfold Ts
      rw [if_pos (by omega), if_neg (by omega)]
    have e2 : Ts V o i x y k h (o + 1) k = sh V i x y k := by
      unfold Ts
      rw [if_neg (by omega), if_pos (by omega)]
    dsimp only
    unfold m_Odds_takeShares_L103b
    rw [if_neg (by omega), if_pos ⟨h0, h1⟩, e1, e2, w32_id (by omega) (by omega)]
    simp only [bv_some]
    rw [if_pos ⟨h0, h1⟩, if_pos ⟨h0, h1⟩, upd2_nj _ (by omega), upd2_np _ (by omega), e2, e3, w64_id (x := sh V i x y k * sh V i x y k) (by unfold sq at hk2; omega) (by unfold sq at hk2; omega), w64_id (by unfold sq at hk2; omega) (by unfold sq at hk2; omega), w32_id (by omega) (by omega)]
    refine in_eq ?_
    have es1 : Sm (sh V i x y) (k + 1) = Sm (sh V i x y) k + sh V i x y k := Sm_s _ h0
    have es2 : Sm (sq V i x y) (k + 1) = Sm (sq V i x y) k + sh V i x y k * sh V i x y k := Sm_s _ h0
    rw [← es1, ← es2]
    funext p j
    unfold Ts upd2
    ((try dsimp only); repeat' split) <;> first | rfl | (exfalso; omega)
  · dsimp only
    unfold m_Odds_takeShares_L103b
    simp (disch := omega) only [if_pos]
def Ln (V : Vw) (o i x y k : Int) (h : HP) : HP := fun p j => if p = o + 1 ∧ 0 ≤ j ∧ j < 4 then 1 + shc V i x y j k else h p j
theorem X_learn (X : isX r h V) (K : okVw V) (hr : r + 29 < o) {i x y x' y' : Int} (hi : 0 ≤ i ∧ i < 8) (hx : (V 2 i 0 = 3 → x' = x ∧ y' = y) ∧ (V 2 i 0 ≠ 3 → x' = -1 ∧ y' = -1)) (hs : ∀ j, 0 ≤ j → j < 4 → h (o + 1) j = 1) : m_Odds_learn o r i x' y' h = some (Ln V o i x y (V 0 1 0) h) := by
  have hm := K.m
  unfold m_Odds_learn m_Odds_learn_L3
  refine loop_seq (fun k => (k, Ln V o i x y k h)) 0 (V 0 1 0) (by omega) (by omega) ?_ (fun k h0 h1 => ?_) ?_
  · refine pr_eq ?_
    funext p j
    unfold Ln
    have : shc V i x y j 0 = 0 := rfl
    rw [this]
    split
    · rw [show p = o + 1 by omega, hs j (by omega) (by omega)]
      rfl
    · rfl
  · have X' : isX r (Ln V o i x y k h) V := isX_cg (fun p j a b => by
      unfold Ln
      rw [if_neg (by omega)]) X
    have hg := K.gv k i (by omega) (by omega) hi.1 hi.2
    have e1 : ∀ a, 0 ≤ a → a < 4 → Ln V o i x y k h (o + 1) a = 1 + shc V i x y a k := fun a a0 a1 => by
      unfold Ln
      rw [if_pos (by omega)]
    have es : ∀ a, shc V i x y a (k + 1) = shc V i x y a k + if (V 2 i 0 ≠ 3 ∨ (k ≠ x ∧ k ≠ y)) ∧ V 4 k i = a then 1 else 0 := fun a => by
      unfold shc
      rw [Sm_s _ h0]
    have hb := shc_bd V i x y (V 4 k i) (n := k) (by omega)
    dsimp only
    unfold m_Odds_learn_L3b
    simp (disch := omega) only [if_pos, if_neg, bv_some, w32_id, X'.m, X'.gv]
    by_cases c : 0 ≤ V 4 k i ∧ k ≠ x' ∧ k ≠ y'
    · rw [if_neg (by omega), if_neg c.2.1, if_neg c.2.2, e1 _ (by omega) (by omega), w32_id (by omega) (by omega)]
      refine in_eq ?_
      funext p j
      unfold upd2
      split
      · have hc : V 2 i 0 ≠ 3 ∨ (k ≠ x ∧ k ≠ y) := by omega
        have hh : Ln V o i x y (k + 1) h p j = 1 + shc V i x y j (k + 1) := by
          unfold Ln
          rw [if_pos (by omega)]
        rw [hh, es, if_pos (by omega), show j = V 4 k i by omega]
        omega
      · unfold Ln
        split
        · rw [es, if_neg (by omega)]
          omega
        · rfl
    · have e : Ln V o i x y (k + 1) h = Ln V o i x y k h := by
        funext p j
        unfold Ln
        split
        · rw [es, if_neg (by omega)]
          omega
        · rfl
      rw [e]
      (repeat' split) <;> first | rfl | (exfalso; omega)
  · have X' : isX r (Ln V o i x y (V 0 1 0) h) V := isX_cg (fun p j a b => by
      unfold Ln
      rw [if_neg (by omega)]) X
    dsimp only
    unfold m_Odds_learn_L3b
    simp (disch := omega) only [if_pos, X'.m]
def Ti (V : Vw) (o i k : Int) (h : HP) : HP := fun p j => if p = o + 1 ∧ 0 ≤ j ∧ j < k then (if V 2 i 0 = 1 then V 3 i j else 1) else h p j
theorem X_takeShares (X : isX r h V) (K : okVw V) (hr : r + 29 < o) {i x y : Int} (hi : 0 ≤ i ∧ i < 8) : m_Odds_takeShares o r i x y h = some (Ts V o i x y 4 h) := by
  have hm := K.m
  have hkd := K.kd i hi.1 hi.2
  unfold m_Odds_takeShares m_Odds_takeShares_L11
  simp (disch := omega) only [if_pos, bv_some, X.kd]
  refine loop_seq (fun k => (k, Ti V o i k h)) 0 4 (by omega) (by omega) ?_ (fun k h0 h1 => ?_) ?_
  · refine pr_eq ?_
    funext p j
    unfold Ti
    rw [if_neg (by omega)]
  · have X' : isX r (Ti V o i k h) V := isX_cg (fun p j a b => by
      unfold Ti
      rw [if_neg (by omega)]) X
    dsimp only
    unfold m_Odds_takeShares_L11b m_Odds_takeShares_J42
    rw [X'.pt hi.1 hi.2 h0 h1]
    simp (disch := omega) only [if_pos, if_neg, bv_some, w32_id]
    split
    · refine in_eq ?_
      funext p j
      unfold Ti upd2
      ((try dsimp only); repeat' split) <;> first | (exfalso; omega) | rfl | (rw [show j = k by omega])
    · refine in_eq ?_
      funext p j
      unfold Ti upd2
      ((try dsimp only); repeat' split) <;> first | (exfalso; omega) | rfl
  · have X' : isX r (Ti V o i 4 h) V := isX_cg (fun p j a b => by
      unfold Ti
      rw [if_neg (by omega)]) X
    dsimp only
    unfold m_Odds_takeShares_L11b m_Odds_takeShares_J49
    simp (disch := omega) only [if_pos]
    by_cases c : V 2 i 0 = 2 ∨ V 2 i 0 = 3
    · have e : ∀ x' y', ((V 2 i 0 = 3 → x' = x ∧ y' = y) ∧ (V 2 i 0 ≠ 3 → x' = -1 ∧ y' = -1)) → m_Odds_takeShares_J87 o o r i x' y' (Ti V o i 4 h) = some (Ts V o i x y 4 h) := fun x' y' hx => by
        unfold m_Odds_takeShares_J87
        rw [X_learn X' K hr hi hx (fun j a b => by
          unfold Ti
          rw [if_pos (by omega), if_neg (by omega)])]
        rw [b1_some]
        rw [X_sum K hi (x := x) (y := y) (fun j a b => by
          unfold Ln sh
          rw [if_pos (by omega), if_neg (by omega), if_neg (by omega)])]
        refine congrArg some ?_
        funext p j
        unfold Ts Ln Ti
        ((try dsimp only); repeat' split) <;> first | (exfalso; omega) | rfl
      unfold m_Odds_takeShares_J61 m_Odds_takeShares_J75
      by_cases c3 : V 2 i 0 = 3
      · simp (disch := omega) only [if_pos c3, if_neg, if_pos, ite_self]
        rw [e x y ⟨fun _ => ⟨rfl, rfl⟩, fun n => absurd c3 n⟩]
        rw [b1_some]
        (try simp (disch := omega) only [if_neg])
      · simp (disch := omega) only [if_neg c3, if_pos]
        rw [e (-1) (-1) ⟨fun n => absurd n c3, fun _ => ⟨rfl, rfl⟩⟩]
        rw [b1_some]
    · simp (disch := omega) only [if_neg]
      rw [X_sum K hi (x := x) (y := y) (fun j a b => by
        unfold sh Ti
        rw [if_pos (by omega)]
        (repeat' split) <;> first | (exfalso; omega) | rfl)]
      rw [b1_some]
      refine congrArg some (congrArg Sum.inr ?_)
      funext p j
      unfold Ts Ti
      ((try dsimp only); repeat' split) <;> first | (exfalso; omega) | rfl
theorem M_shareOf (X : isM h V) (K : okVw V) {i x y a : Int} (hi : 0 ≤ i ∧ i < 8) (ha : 0 ≤ a ∧ a < 4) : m_Md_shareOf 126 i a x y h = some (sh V i x y a) := by
  have hm := K.m
  have hkd := K.kd i hi.1 hi.2
  have hb := shc_bd V i x y a hm.1
  unfold m_Md_shareOf sh
  simp (disch := omega) only [if_pos, X.kd, X.pt, w32_id, Int.reduceAdd, M_gavers X K hi, b1_some]
  have e : V 2 i 0 = 2 → Sm (fun c => if c ≠ -1 ∧ c ≠ -1 ∧ V 4 c i = a then 1 else 0) (V 0 1 0) = shc V i x y a (V 0 1 0) := fun q => Sm_congr (fun c c0 c1 => by
    have : c ≠ -1 := by omega
    have : V 2 i 0 ≠ 3 := by omega
    simp [*])
  have e' : V 2 i 0 = 3 → Sm (fun c => if c ≠ x ∧ c ≠ y ∧ V 4 c i = a then 1 else 0) (V 0 1 0) = shc V i x y a (V 0 1 0) := fun q => Sm_congr (fun c c0 c1 => by
    simp [q, and_assoc])
  by_cases q0 : V 2 i 0 = 0
  · rw [if_pos q0, if_pos q0]
  · rw [if_neg q0, if_neg q0]
    by_cases q1 : V 2 i 0 = 1
    · rw [if_pos q1, if_pos q1]
    · rw [if_neg q1, if_neg q1]
      by_cases q2 : V 2 i 0 = 2
      · rw [if_pos q2, e q2, w32_id (by omega) (by omega)]
      · rw [if_neg q2, e' (by omega), w32_id (by omega) (by omega)]
theorem M_sumBut (X : isM h V) (K : okVw V) {i x y but : Int} (hi : 0 ≤ i ∧ i < 8) : m_Md_sumBut 126 i but x y h = some (Sm (fun a => if a = but then 0 else sh V i x y a) 4) := by
  unfold m_Md_sumBut m_Md_sumBut_L6
  refine loop_seq (fun k => (Sm (fun a => if a = but then 0 else sh V i x y a) k, k)) 0 4 (by omega) (by omega) rfl (fun k h0 h1 => ?_) ?_
  · have hb := Sm_bd (f := fun a => if a = but then 0 else sh V i x y a) 0 9 h0 (fun a a0 a1 => by
      have := sh_bd K (x := x) (y := y) hi (a := a) ⟨a0, by omega⟩
      split <;> omega)
    have hk := sh_bd K (x := x) (y := y) hi (a := k) ⟨h0, h1⟩
    dsimp only
    unfold m_Md_sumBut_L6b
    rw [M_shareOf X K hi ⟨h0, h1⟩]
    simp (disch := omega) only [if_neg, b1_some, bv_some, w32_id, Sm_s _ h0]
    split <;> simp
  · dsimp only
    unfold m_Md_sumBut_L6b
    simp (disch := omega) only [if_pos]
end Share
