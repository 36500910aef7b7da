/-! PURE: sums over pairs; rank, pair, pairOdds, mean -/
def D1 (V : Vw) (φ : Int → Int → Int) (x : Int) : Int := Sm (fun k => φ x (x + 1 + k)) (V 0 1 0 - 1 - x)
def D2 (V : Vw) (φ : Int → Int → Int) : Int := Sm (D1 V φ) (V 0 1 0)
theorem Sm_neg (f : Int → Int) {n : Int} (hn : n ≤ 0) : Sm f n = 0 := by
  unfold Sm
  rw [show n.toNat = 0 by omega]
  rfl
theorem Sm_1 {n : Int} (hn : 0 ≤ n) : Sm (fun _ => 1) n = n := by
  obtain ⟨k, rfl⟩ : ∃ k : Nat, n = k := ⟨n.toNat, by omega⟩
  induction k with
  | zero => rfl
  | succ k ih =>
    rw [show ((k + 1 : Nat) : Int) = (k : Int) + 1 by omega, Sm_s _ (by omega), ih (by omega)]
theorem D1_bd {V : Vw} {φ : Int → Int → Int} {B : Int} (hB : 0 ≤ B) (hm : V 0 1 0 ≤ 8) (h : ∀ x y, 0 ≤ φ x y ∧ φ x y ≤ B) {x : Int} (hx : 0 ≤ x) : 0 ≤ D1 V φ x ∧ D1 V φ x ≤ B * 8 := by
  unfold D1
  by_cases c : V 0 1 0 - 1 - x ≤ 0
  · rw [Sm_neg _ c]
    omega
  · have h1 := Sm_bd (f := fun k => φ x (x + 1 + k)) 0 B (show 0 ≤ V 0 1 0 - 1 - x by omega) (fun k _ _ => h _ _)
    have h2 := Int.mul_le_mul_of_nonneg_left (show V 0 1 0 - 1 - x ≤ 8 by omega) hB
    omega
/-- what is put in order, summed -/
theorem rkS_sum (V : Vw) (s x y : Int) (st : RS) (h0 : 0 ≤ st.1) (φ : Int × Int → Int) : Sm (fun j => φ ((rkS V s x y st).2 j)) (rkS V s x y st).1 = Sm (fun j => φ (st.2 j)) st.1 + if rch V x y then φ (x, y) else 0 := by
  unfold rkS
  by_cases c : rch V x y
  · rw [if_pos c, if_pos c]
    exact insG_sum h0 φ
  · rw [if_neg c, if_neg c, Int.add_zero]
theorem rkY_sum {V : Vw} {s x : Int} {st : RS} (hx : 0 ≤ x) (h : RInv V s st) (φ : Int × Int → Int) : ∀ k : Nat, x + k < V 0 1 0 → Sm (fun j => φ ((rkY V s x st k).2 j)) (rkY V s x st k).1 = Sm (fun j => φ (st.2 j)) st.1 + Sm (fun k => if rch V x (x + 1 + k) then φ (x, x + 1 + k) else 0) k := by
  intro k
  induction k with
  | zero => intro _; rw [show ((0 : Nat) : Int) = 0 from rfl, Sm_0, Int.add_zero]; rfl
  | succ k ih =>
    intro hk
    have hi := (rkY_inv hx h k (by omega)).1
    have e := rkS_sum V s x (x + 1 + k) (rkY V s x st k) hi.1 φ
    rw [ih (by omega)] at e
    rw [show ((k + 1 : Nat) : Int) = (k : Int) + 1 by omega, Sm_s _ (by omega), ← Int.add_assoc]
    exact e
theorem rkX_sum {V : Vw} {s : Int} (φ : Int × Int → Int) : ∀ k : Nat, (k : Int) ≤ V 0 1 0 → Sm (fun j => φ ((rkX V s k).2 j)) (rkX V s k).1 = Sm (D1 V (fun x y => if rch V x y then φ (x, y) else 0)) k := by
  intro k
  induction k with
  | zero => intro _; rfl
  | succ k ih =>
    intro hk
    have hi := (rkX_inv (V := V) (s := s) k (by omega)).1
    have e := rkY_sum (x := (k : Int)) (by omega) hi φ (V 0 1 0 - 1 - k).toNat (by omega)
    rw [ih (by omega)] at e
    rw [show ((k + 1 : Nat) : Int) = (k : Int) + 1 by omega, Sm_s _ (by omega)]
    have e2 : ((V 0 1 0 - 1 - (k : Int)).toNat : Int) = V 0 1 0 - 1 - k := by omega
    rw [e2] at e
    exact e
theorem Rk_sum {V : Vw} (K : okVw V) (s : Int) (φ : Int × Int → Int) : Sm (fun j => φ ((Rk V s).2 j)) (Rk V s).1 = D2 V (fun x y => if rch V x y then φ (x, y) else 0) := by
  have hm := K.m
  have h := rkX_sum (V := V) (s := s) φ (V 0 1 0).toNat (by omega)
  rw [show ((V 0 1 0).toNat : Int) = V 0 1 0 by omega] at h
  exact h
theorem Rk_n {V : Vw} (K : okVw V) (s : Int) : (Rk V s).1 = D2 V (fun x y => if rch V x y then 1 else 0) := by
  have h := Rk_sum K s (fun _ => 1)
  rw [Sm_1 (Rk_inv K s).1.1] at h
  exact h
theorem D2_congr {V : Vw} {φ ψ : Int → Int → Int} (h : ∀ x y, 0 ≤ x → x < y → y < V 0 1 0 → φ x y = ψ x y) : D2 V φ = D2 V ψ := Sm_congr (fun x x0 x1 => Sm_congr (fun k k0 k1 => h _ _ x0 (by omega) (by omega)))
theorem D2_one {V : Vw} (K : okVw V) : D2 V (fun _ _ => 1) * 2 = V 0 1 0 * (V 0 1 0 - 1) := by
  have hm := K.m
  have e : D2 V (fun _ _ => 1) = Sm (fun x => V 0 1 0 - 1 - x) (V 0 1 0) := Sm_congr (fun x x0 x1 => Sm_1 (by omega))
  rw [e]
  generalize V 0 1 0 = m at hm
  have h9 : m = 0 ∨ m = 1 ∨ m = 2 ∨ m = 3 ∨ m = 4 ∨ m = 5 ∨ m = 6 ∨ m = 7 ∨ m = 8 := by omega
  rcases h9 with rfl | rfl | rfl | rfl | rfl | rfl | rfl | rfl | rfl <;> decide
section XS
variable {o : Int} {h : HP} {V : Vw}
theorem X_nearOnes (X : isX o h V) (K : okVw V) (r : Int) : m_Exam_nearOnes o r h = some (D2 V (fun x y => if nearP V x y r then 1 else 0)) := by
  have hm := K.m
  have b01' : ∀ x y, 0 ≤ (if nearP V x y r then (1 : Int) else 0) ∧ (if nearP V x y r then (1 : Int) else 0) ≤ 1 := fun x y => by split <;> omega
  unfold m_Exam_nearOnes m_Exam_nearOnes_L4
  refine loop_seq (fun x => (Sm (D1 V (fun x y => if nearP V x y r then 1 else 0)) x, x)) 0 (V 0 1 0) (by omega) (by omega) rfl (fun x x0 x1 => ?_) ?_
  · have hS := Sm_bd (f := D1 V (fun x y => if nearP V x y r then 1 else 0)) 0 8 x0 (fun i i0 i1 => by have := D1_bd (V := V) (B := 1) (by omega) (by omega) b01' i0; omega)
    (try dsimp only)
    unfold m_Exam_nearOnes_L4b m_Exam_nearOnes_L17
    rw [X.m, if_neg (by omega), w32_id (by omega) (by omega)]
    simp only [bv_some]
    refine loop_seq (fun y => (Sm (D1 V (fun x y => if nearP V x y r then 1 else 0)) x + Sm (fun k => if nearP V x (x + 1 + k) r then 1 else 0) (y - x - 1), y)) (x + 1) (V 0 1 0) (by omega) (by omega) (by rw [show x + 1 - x - 1 = 0 by omega, Sm_0, Int.add_zero]) (fun y y0 y1 => ?_) ?_
    · have hT := Sm_bd (f := fun k => if nearP V x (x + 1 + k) r then 1 else 0) 0 1 (show 0 ≤ y - x - 1 by omega) (fun i i0 i1 => b01' _ _)
      (try dsimp only)
      unfold m_Exam_nearOnes_L17b
      rw [X.m, if_neg (by omega), X_near X K (by omega) (by omega)]
      simp only [b1_some, if10]
      rw [show y + 1 - x - 1 = (y - x - 1) + 1 by omega, Sm_s _ (by omega), show x + 1 + (y - x - 1) = y by omega, w32_id (x := y + 1) (by omega) (by omega), w32_id (by omega) (by omega)]
      by_cases c : nearP V x y r
      · rw [if_pos c, if_pos c, Int.add_assoc]
      · rw [if_neg c, if_neg c, Int.add_zero]
    · (try dsimp only)
      unfold m_Exam_nearOnes_L17b
      rw [X.m, if_pos (by omega), w32_id (by omega) (by omega), Sm_s _ x0, show V 0 1 0 - x - 1 = V 0 1 0 - 1 - x by omega]
      rfl
  · (try dsimp only)
    unfold m_Exam_nearOnes_L4b
    rw [X.m, if_pos (by omega)]
    rfl
theorem X_likeReach (X : isX o h V) (K : okVw V) : m_Exam_likenessInReach o h = some (D2 V (fun x y => if rch V x y then Sm (lkA V x y) (V 0 0 0) else 0)) := by
  have hm := K.m
  have hn := K.n
  have hl : ∀ x y, 0 ≤ Sm (lkA V x y) (V 0 0 0) ∧ Sm (lkA V x y) (V 0 0 0) ≤ 32 := fun x y => by
    have := Sm_bd (f := lkA V x y) 0 4 (show 0 ≤ V 0 0 0 by omega) (fun i _ _ => lkA_bd K x y i)
    omega
  have b01' : ∀ x y, 0 ≤ (if rch V x y then Sm (lkA V x y) (V 0 0 0) else 0) ∧ (if rch V x y then Sm (lkA V x y) (V 0 0 0) else 0) ≤ 32 := fun x y => by
    have := hl x y
    split <;> omega
  unfold m_Exam_likenessInReach m_Exam_likenessInReach_L4
  refine loop_seq (fun x => (Sm (D1 V (fun x y => if rch V x y then Sm (lkA V x y) (V 0 0 0) else 0)) x, x)) 0 (V 0 1 0) (by omega) (by omega) rfl (fun x x0 x1 => ?_) ?_
  · have hS := Sm_bd (f := D1 V (fun x y => if rch V x y then Sm (lkA V x y) (V 0 0 0) else 0)) 0 256 x0 (fun i i0 i1 => by have := D1_bd (V := V) (B := 32) (by omega) (by omega) b01' i0; omega)
    (try dsimp only)
    unfold m_Exam_likenessInReach_L4b m_Exam_likenessInReach_L16
    rw [X.m, if_neg (by omega), w32_id (by omega) (by omega)]
    simp only [bv_some]
    refine loop_seq (fun y => (Sm (D1 V (fun x y => if rch V x y then Sm (lkA V x y) (V 0 0 0) else 0)) x + Sm (fun k => if rch V x (x + 1 + k) then Sm (lkA V x (x + 1 + k)) (V 0 0 0) else 0) (y - x - 1), y)) (x + 1) (V 0 1 0) (by omega) (by omega) (by rw [show x + 1 - x - 1 = 0 by omega, Sm_0, Int.add_zero]) (fun y y0 y1 => ?_) ?_
    · have hT := Sm_bd (f := fun k => if rch V x (x + 1 + k) then Sm (lkA V x (x + 1 + k)) (V 0 0 0) else 0) 0 32 (show 0 ≤ y - x - 1 by omega) (fun i i0 i1 => b01' _ _)
      have hy := hl x y
      (try dsimp only)
      unfold m_Exam_likenessInReach_L16b
      rw [X.m, if_neg (by omega), X_inReach X K (by omega) (by omega), X_likeness X K (by omega) (by omega)]
      simp only [b1_some, bv_some, if10]
      rw [show y + 1 - x - 1 = (y - x - 1) + 1 by omega, Sm_s _ (show 0 ≤ y - x - 1 by omega), show x + 1 + (y - x - 1) = y by omega, w32_id (x := y + 1) (by omega) (by omega), w32_id (by omega) (by omega)]
      by_cases c : rch V x y
      · rw [if_pos c, if_pos c, Int.add_assoc]
      · rw [if_neg c, if_neg c, Int.add_zero]
    · (try dsimp only)
      unfold m_Exam_likenessInReach_L16b
      rw [X.m, if_pos (by omega), w32_id (by omega) (by omega), Sm_s _ x0, show V 0 1 0 - x - 1 = V 0 1 0 - 1 - x by omega]
      rfl
  · (try dsimp only)
    unfold m_Exam_likenessInReach_L4b
    rw [X.m, if_pos (by omega)]
    rfl
theorem M_near (M : isM h V) (K : okVw V) (r : Int) : m_Md_near 126 r h = some (D2 V (fun x y => if nearP V x y r then 1 else 0)) := by
  have hm := K.m
  have b01' : ∀ x y, 0 ≤ (if nearP V x y r then (1 : Int) else 0) ∧ (if nearP V x y r then (1 : Int) else 0) ≤ 1 := fun x y => by split <;> omega
  unfold m_Md_near m_Md_near_L4
  refine loop_seq (fun x => (Sm (D1 V (fun x y => if nearP V x y r then 1 else 0)) x, x)) 0 (V 0 1 0) (by omega) (by omega) rfl (fun x x0 x1 => ?_) ?_
  · have hS := Sm_bd (f := D1 V (fun x y => if nearP V x y r then 1 else 0)) 0 8 x0 (fun i i0 i1 => by have := D1_bd (V := V) (B := 1) (by omega) (by omega) b01' i0; omega)
    (try dsimp only)
    unfold m_Md_near_L4b m_Md_near_L17
    rw [M.m, if_neg (by omega), w32_id (by omega) (by omega)]
    simp only [bv_some]
    refine loop_seq (fun y => (Sm (D1 V (fun x y => if nearP V x y r then 1 else 0)) x + Sm (fun k => if nearP V x (x + 1 + k) r then 1 else 0) (y - x - 1), y)) (x + 1) (V 0 1 0) (by omega) (by omega) (by rw [show x + 1 - x - 1 = 0 by omega, Sm_0, Int.add_zero]) (fun y y0 y1 => ?_) ?_
    · have hT := Sm_bd (f := fun k => if nearP V x (x + 1 + k) r then 1 else 0) 0 1 (show 0 ≤ y - x - 1 by omega) (fun i i0 i1 => b01' _ _)
      (try dsimp only)
      unfold m_Md_near_L17b
      rw [M.m, if_neg (by omega), M_isNear M K (by omega) (by omega)]
      simp only [b1_some, bv_some, if10]
      rw [show y + 1 - x - 1 = (y - x - 1) + 1 by omega, Sm_s _ (by omega), show x + 1 + (y - x - 1) = y by omega, w32_id (x := y + 1) (by omega) (by omega), w32_id (by omega) (by omega), w32_id (by omega) (by omega)]
      by_cases c : nearP V x y r
      · rw [if_pos c, if_pos c, Int.add_assoc]
      · rw [if_neg c, if_neg c, Int.add_zero, Int.add_zero]
    · (try dsimp only)
      unfold m_Md_near_L17b
      rw [M.m, if_pos (by omega), w32_id (by omega) (by omega), Sm_s _ x0, show V 0 1 0 - x - 1 = V 0 1 0 - 1 - x by omega]
      rfl
  · (try dsimp only)
    unfold m_Md_near_L4b
    rw [M.m, if_pos (by omega)]
    rfl
theorem X_pairsIn (X : isX o h V) (K : okVw V) (s : Int) : m_Exam_pairsInReach o h = some (Rk V s).1 := by
  have hm := K.m
  unfold m_Exam_pairsInReach
  rw [X.us (by omega) (by omega), X.m, X_nearOnes X K]
  simp only [b1_some]
  rw [Rk_n K s]
  by_cases c : V 7 3 0 = 0
  · have h1 := D2_one K
    have e : D2 V (fun x y => if rch V x y then 1 else 0) = D2 V (fun _ _ => 1) := D2_congr (fun x y _ _ _ => by rw [if_pos (Or.inl c)])
    have hb : ∀ m : Int, 0 ≤ m → m ≤ 8 → iDiv (w32 (m * w32 (m - 1))) 2 = m * (m - 1) / 2 := by
      intro m m0 m1
      have h9 : m = 0 ∨ m = 1 ∨ m = 2 ∨ m = 3 ∨ m = 4 ∨ m = 5 ∨ m = 6 ∨ m = 7 ∨ m = 8 := by omega
      rcases h9 with rfl | rfl | rfl | rfl | rfl | rfl | rfl | rfl | rfl <;> decide
    rw [if_pos c, if_neg (by omega), hb _ hm.1 hm.2, e]
    congr 1
    omega
  · rw [if_neg c]
    refine congrArg some (D2_congr (fun x y _ _ _ => ?_))
    by_cases d : nearP V x y (V 7 3 0)
    · rw [if_pos d, if_pos (Or.inr d)]
    · rw [if_neg d, if_neg (fun q => q.elim c d)]
end XS
theorem frK_frC {h h1 : HP} (f : frK 99 94 h h1) : frC h h1 := fun p j n => by
  unfold scr at n
  exact f p j (by omega) (by omega)
theorem X_rankNow {h : HP} {V : Vw} (X : isX 1 h V) (K : okVw V) : ∃ h1, m_Cb_rankNow 0 h = some h1 ∧ XRk V 99 (V 7 0 0) h1 ∧ frC h h1 := by
  have hu := K.us
  obtain ⟨h1, e, q, f⟩ := X_order (o := 99) (e := 94) X K (by omega) (by omega) hu.1
  unfold m_Cb_rankNow
  have e2 : h 24 0 = V 7 0 0 := X.us (by omega) (by omega)
  simp only [Int.zero_add, Int.reduceAdd]
  rw [e2, e]
  exact ⟨h1, rfl, q, frK_frC f⟩
/-- who ranks where -/
def fdN (G : PG) (lo hi : Int) : Nat → Int
  | 0 => -1
  | k + 1 => if 0 ≤ fdN G lo hi k then fdN G lo hi k else if (G k).1 = lo ∧ (G k).2 = hi then (k : Int) else -1
theorem fdN_p (G : PG) (lo hi : Int) (k : Nat) : (fdN G lo hi k = -1 ∧ ∀ j : Int, 0 ≤ j → j < k → ¬ ((G j).1 = lo ∧ (G j).2 = hi)) ∨ ((0 ≤ fdN G lo hi k ∧ fdN G lo hi k < k) ∧ ((G (fdN G lo hi k)).1 = lo ∧ (G (fdN G lo hi k)).2 = hi) ∧ ∀ j : Int, 0 ≤ j → j < fdN G lo hi k → ¬ ((G j).1 = lo ∧ (G j).2 = hi)) := by
  induction k with
  | zero => exact Or.inl ⟨rfl, fun j a b => by omega⟩
  | succ k ih =>
    unfold fdN
    rcases ih with ⟨i1, i2⟩ | ⟨i1, i2, i3⟩
    · rw [if_neg (by omega)]
      by_cases c : (G k).1 = lo ∧ (G k).2 = hi
      · rw [if_pos c]
        exact Or.inr ⟨by omega, c, fun j a b => i2 j a (by omega)⟩
      · rw [if_neg c]
        refine Or.inl ⟨rfl, fun j a b => ?_⟩
        by_cases e : j = k
        · rw [e]; exact c
        · exact i2 j a (by omega)
    · rw [if_pos i1.1]
      exact Or.inr ⟨by omega, i2, i3⟩
def fdR (V : Vw) (s x y : Int) : Int := fdN (Rk V s).2 (if y < x then y else x) (if x < y then y else x) (Rk V s).1.toNat
theorem fdR_bd {V : Vw} (K : okVw V) (s x y : Int) : -1 ≤ fdR V s x y ∧ fdR V s x y < (Rk V s).1 ∨ fdR V s x y = -1 := by
  have hi := (Rk_inv K s).1.1
  have h := fdN_p (Rk V s).2 (if y < x then y else x) (if x < y then y else x) (Rk V s).1.toNat
  unfold fdR
  omega
theorem X_placeOf {V : Vw} (K : okVw V) {o s : Int} {h : HP} (hR : XRk V o s h) (x y : Int) : m_Ranking_placeOf o x y h = some (fdR V s x y) := by
  have hi := Rk_inv K s
  have hf := fdN_p (Rk V s).2 (if y < x then y else x) (if x < y then y else x) (Rk V s).1.toNat
  have e0 : h o 0 = (Rk V s).1 := hR.1.1
  have hR2 := hR.1.2
  unfold m_Ranking_placeOf m_Ranking_placeOf_L16 fdR
  simp only [bv_some]
  generalize fdN (Rk V s).2 (if y < x then y else x) (if x < y then y else x) (Rk V s).1.toNat = d at hf ⊢
  generalize (if y < x then y else x) = lo at hf ⊢
  generalize (if x < y then y else x) = hh at hf ⊢
  have step : ∀ c, 0 ≤ c → c < (Rk V s).1 → ¬ (((Rk V s).2 c).1 = lo ∧ ((Rk V s).2 c).2 = hh) → m_Ranking_placeOf_L16b o lo hh h c = some (.inl (c + 1)) := fun c c0 c1 c2 => by
    unfold m_Ranking_placeOf_L16b
    rw [e0, if_neg (by omega), if_pos (by omega), (hR2 c c0 c1).1, (hR2 c c0 c1).2.1, w32_id (by omega) (by omega)]
    by_cases q : ((Rk V s).2 c).1 = lo
    · rw [if_pos q, if_pos (by omega), if_neg (fun w => c2 ⟨q, w⟩)]
    · rw [if_neg q]
  rcases hf with ⟨i1, i2⟩ | ⟨i1, i2, i3⟩
  · refine loop_seq (fun c => c) 0 (Rk V s).1 hi.1.1 (by omega) rfl (fun c c0 c1 => step c c0 c1 (i2 c c0 (by omega))) ?_
    unfold m_Ranking_placeOf_L16b
    rw [e0, if_pos (by omega), i1]
  · refine loop_seq (fun c => c) 0 d i1.1 (by omega) rfl (fun c c0 c1 => step c c0 (by omega) (i3 c c0 c1)) ?_
    unfold m_Ranking_placeOf_L16b
    rw [e0, if_neg (by omega), if_pos (by omega), (hR2 d i1.1 (by omega)).1, (hR2 d i1.1 (by omega)).2.1, if_pos i2.1, if_pos (by omega), if_pos i2.2]
theorem M_ranked {V : Vw} (K : okVw V) {s : Int} {h : HP} (hR : MRk V s h) (x y : Int) : m_Md_ranked 126 x y h = some (if fdR V s x y < 0 then -5 else fdR V s x y) := by
  have hi := Rk_inv K s
  have hf := fdN_p (Rk V s).2 (if y < x then y else x) (if x < y then y else x) (Rk V s).1.toNat
  have e0 : h 126 29 = (Rk V s).1 := hR.1.1
  have hR2 := hR.1.2
  unfold m_Md_ranked m_Md_ranked_L2 fdR
  generalize fdN (Rk V s).2 (if y < x then y else x) (if x < y then y else x) (Rk V s).1.toNat = d at hf ⊢
  have step : ∀ c, 0 ≤ c → c < (Rk V s).1 → ¬ (((Rk V s).2 c).1 = (if y < x then y else x) ∧ ((Rk V s).2 c).2 = (if x < y then y else x)) → m_Md_ranked_L2b 126 x y h c = some (.inl (c + 1)) := fun c c0 c1 c2 => by
    unfold m_Md_ranked_L2b
    simp only [Int.reduceAdd, bv_some]
    have z1 := (hR2 c c0 c1).1
    have z2 := (hR2 c c0 c1).2.1
    rw [e0, if_neg (by omega), if_pos (by omega), w32_id (by omega) (by omega)]
    by_cases q : ((Rk V s).2 c).1 = (if y < x then y else x)
    · rw [if_pos (by rw [z1]; exact q), if_pos (by omega), if_neg (by rw [z2]; exact fun w => c2 ⟨q, w⟩)]
    · rw [if_neg (by rw [z1]; exact q)]
  rcases hf with ⟨i1, i2⟩ | ⟨i1, i2, i3⟩
  · refine loop_seq (fun c => c) 0 (Rk V s).1 hi.1.1 (by omega) rfl (fun c c0 c1 => step c c0 c1 (i2 c c0 (by omega))) ?_
    unfold m_Md_ranked_L2b
    rw [e0, if_pos (by omega), i1]
    rfl
  · refine loop_seq (fun c => c) 0 d i1.1 (by omega) rfl (fun c c0 c1 => step c c0 (by omega) (i3 c c0 c1)) ?_
    unfold m_Md_ranked_L2b
    simp only [Int.reduceAdd, bv_some]
    have z1 := (hR2 d i1.1 (by omega)).1
    have z2 := (hR2 d i1.1 (by omega)).2.1
    rw [e0, if_neg (by omega), if_pos (by omega), if_pos (by rw [z1]; exact i2.1), if_pos (by omega), if_pos (by rw [z2]; exact i2.2), if_neg (by omega)]
theorem P_has {V : Vw} {o s : Int} {h : HP} (hR : XRk V o s h) (k : Int) : m_Ranking_has o k h = some (if 0 ≤ k ∧ k < (Rk V s).1 then 1 else 0) := by
  have e0 : h o 0 = (Rk V s).1 := hR.1.1
  unfold m_Ranking_has
  rw [e0]
  (repeat' split) <;> first | rfl | (exfalso; omega)
theorem A_rank (x y : Int) : AA (m_Cb_rank 0 x y) (m_Md_rank 126 x y) := by
  rintro h ⟨V, R⟩
  obtain ⟨X, M, K, I, T, P⟩ := id R
  unfold m_Cb_rank m_Md_rank
  simp only [Int.zero_add, X_hasTwo X, b1_some, if10]
  by_cases c : two V x y
  · obtain ⟨h1, e1, r1, f1⟩ := X_rankNow X K
    have R1 : Rl h1 V := Rl_fr f1 R
    obtain ⟨h2, e2, r2, f2⟩ := M_orders R1.2.1 K
    refine ⟨if fdR V (V 7 0 0) x y < 0 then -5 else fdR V (V 7 0 0) x y, h1, h2, ?_, ?_, V, Rl_fr (frR_frC f2) R1⟩
    · rw [if_pos c, e1]
      simp only [b1_some]
      rw [X_placeOf K r1]
      simp only [b1_some]
      unfold m_Cb_orNeither
      (repeat' split) <;> first | (exfalso; omega) | rfl
    · simp only [M_isTwo R1.2.1 K, b1_some, if10]
      rw [if_pos c, e2]
      simp only [b1_some]
      rw [M_ranked K r2]
      rfl
  · refine ⟨-1, h, h, ?_, ?_, V, R⟩
    · rw [if_neg c]
    · simp only [M_isTwo M K, b1_some, if10]
      rw [if_neg c]
theorem A_pair (k w : Int) : AA (m_Cb_pair 0 k w) (m_Md_pair 126 k w) := by
  rintro h ⟨V, R⟩
  obtain ⟨X, M, K, I, T, P⟩ := id R
  have hi := Rk_inv K (V 7 0 0)
  have hS := Sc_bd K (V 7 0 0)
  have h00 := hi.1.1
  unfold m_Cb_pair m_Md_pair
  simp only [Int.zero_add, P_in, b1_some, if10, Int.reduceAdd]
  by_cases c : 0 ≤ w ∧ w ≤ 2
  · obtain ⟨h1, e1, r1, f1⟩ := X_rankNow X K
    have R1 : Rl h1 V := Rl_fr f1 R
    obtain ⟨h2, e2, r2, f2⟩ := M_orders R1.2.1 K
    have e29 : h2 126 29 = (Rk V (V 7 0 0)).1 := r2.1.1
    have e1' : h1 99 1 = Sc V (V 7 0 0) := r1.2
    by_cases d : 0 ≤ k ∧ k < (Rk V (V 7 0 0)).1
    · have g1 := r1.1.2 k d.1 d.2
      have g2 := r2.1.2 k d.1 d.2
      have g3 := r2.2 k d.1 d.2
      simp only [Int.reduceAdd] at g1
      refine ⟨if w = 0 then ((Rk V (V 7 0 0)).2 k).1 else if w = 1 then ((Rk V (V 7 0 0)).2 k).2 else if k < Sc V (V 7 0 0) then 1 else 0, h1, h2, ?_, ?_, V, Rl_fr (frR_frC f2) R1⟩
      · rw [if_neg (by omega), if_pos (by omega), e1]
        simp only [b1_some]
        rw [P_has r1]
        simp only [b1_some, if10]
        rw [if_pos d, e1', g1.1, g1.2.1]
        simp only [if_pos (show 0 ≤ k ∧ k < 28 by omega)]
        (repeat' split) <;> first | (exfalso; omega) | rfl
      · rw [if_pos c, e2]
        simp only [b1_some]
        rw [e29, w32_id (by omega) (by omega), if_pos (by omega)]
        simp only [if_pos (show 0 ≤ k ∧ k < 28 by omega), g2.1, g2.2.1, g3, if10]
        (repeat' split) <;> first | (exfalso; omega) | rfl
    · refine ⟨-2, h1, h2, ?_, ?_, V, Rl_fr (frR_frC f2) R1⟩
      · rw [if_neg (by omega), if_pos (by omega), e1]
        simp only [b1_some]
        rw [P_has r1]
        simp only [b1_some, if10]
        rw [if_neg d]
      · rw [if_pos c, e2]
        simp only [b1_some]
        rw [e29, w32_id (by omega) (by omega), if_neg (by omega)]
  · refine ⟨-1, h, h, ?_, ?_, V, R⟩
    · by_cases c1 : w < 0
      · rw [if_pos c1]
      · rw [if_neg c1, if_neg (by omega)]
    · rw [if_neg c]
theorem A_pairOdds (k p : Int) : AA (m_Cb_pairOdds 0 k p) (m_Md_pairOdds 126 k p) := by
  rintro h ⟨V, R⟩
  obtain ⟨X, M, K, I, T, P⟩ := id R
  have hi := Rk_inv K (V 7 0 0)
  have h00 := hi.1.1
  unfold m_Cb_pairOdds m_Md_pairOdds
  simp only [Int.zero_add, P_in, P_isPart, b1_some, if10, Int.reduceAdd]
  by_cases c : 0 ≤ p ∧ p ≤ 1
  · obtain ⟨h1, e1, r1, f1⟩ := X_rankNow X K
    have R1 : Rl h1 V := Rl_fr f1 R
    obtain ⟨h2, e2, r2, f2⟩ := M_orders R1.2.1 K
    have e29 : h2 126 29 = (Rk V (V 7 0 0)).1 := r2.1.1
    by_cases d : 0 ≤ k ∧ k < (Rk V (V 7 0 0)).1
    · have g1 := r1.1.2 k d.1 d.2
      have g2 := r2.1.2 k d.1 d.2
      have hq := q_bd (s := V 7 0 0) K ((Rk V (V 7 0 0)).2 k)
      simp only [Int.reduceAdd] at g1
      refine ⟨if p = 0 then rdA (qo V (V 7 0 0) ((Rk V (V 7 0 0)).2 k)) (qb V (V 7 0 0) ((Rk V (V 7 0 0)).2 k)) else rdB (qo V (V 7 0 0) ((Rk V (V 7 0 0)).2 k)) (qb V (V 7 0 0) ((Rk V (V 7 0 0)).2 k)), h1, h2, ?_, ?_, V, Rl_fr (frR_frC f2) R1⟩
      · rw [if_pos c, e1]
        simp only [b1_some]
        rw [P_has r1]
        simp only [b1_some, if10]
        rw [if_pos d, g1.2.2.1, g1.2.2.2]
        simp only [if_pos (show 0 ≤ k ∧ k < 28 by omega)]
        (repeat' split) <;> first | (exfalso; omega) | rfl
      · rw [if_pos c, e2]
        simp only [b1_some]
        rw [e29, w32_id (by omega) (by omega), if_pos (by omega), g2.2.2.1, g2.2.2.2, if_pos (by omega), if_pos (by omega), M_lowest p h2 hq.1 (by omega)]
        rfl
    · refine ⟨-9223372036854775808, h1, h2, ?_, ?_, V, Rl_fr (frR_frC f2) R1⟩
      · rw [if_pos c, e1]
        simp only [b1_some]
        rw [P_has r1]
        simp only [b1_some, if10]
        rw [if_neg d]
      · rw [if_pos c, e2]
        simp only [b1_some]
        rw [e29, w32_id (by omega) (by omega), if_neg (by omega)]
  · refine ⟨-9223372036854775808, h, h, ?_, ?_, V, R⟩
    · rw [if_neg c]
    · rw [if_neg c]
theorem M_sumLike {V : Vw} (K : okVw V) {h : HP} (M : isM h V) (hR : MRk V (V 7 0 0) h) (p : Int) (hn : 0 < (Rk V (V 7 0 0)).1) : m_Md_mean_L30 126 p h (0, 0) = some (if p = 0 then rdA (D2 V (fun x y => if rch V x y then Sm (lkA V x y) (V 0 0 0) else 0)) (Rk V (V 7 0 0)).1 else rdB (D2 V (fun x y => if rch V x y then Sm (lkA V x y) (V 0 0 0) else 0)) (Rk V (V 7 0 0)).1, h) := by
  have hi := Rk_inv K (V 7 0 0)
  have hnn := K.n
  have e29 : h 126 29 = (Rk V (V 7 0 0)).1 := hR.1.1
  have hs := Rk_sum K (V 7 0 0) (fun q => Sm (lkA V q.1 q.2) (V 0 0 0))
  have hl : ∀ x y, 0 ≤ Sm (lkA V x y) (V 0 0 0) ∧ Sm (lkA V x y) (V 0 0 0) ≤ 32 := fun x y => by
    have := Sm_bd (f := lkA V x y) 0 4 (show 0 ≤ V 0 0 0 by omega) (fun i _ _ => lkA_bd K x y i)
    omega
  have hb : ∀ k, 0 ≤ k → 0 ≤ Sm (fun j => Sm (lkA V ((Rk V (V 7 0 0)).2 j).1 ((Rk V (V 7 0 0)).2 j).2) (V 0 0 0)) k ∧ Sm (fun j => Sm (lkA V ((Rk V (V 7 0 0)).2 j).1 ((Rk V (V 7 0 0)).2 j).2) (V 0 0 0)) k ≤ 32 * k := fun k k0 => by
    have := Sm_bd (f := fun j => Sm (lkA V ((Rk V (V 7 0 0)).2 j).1 ((Rk V (V 7 0 0)).2 j).2) (V 0 0 0)) 0 32 k0 (fun j _ _ => hl _ _)
    omega
  rw [← hs]
  unfold m_Md_mean_L30
  refine loop_seq (fun k => (Sm (fun j => Sm (lkA V ((Rk V (V 7 0 0)).2 j).1 ((Rk V (V 7 0 0)).2 j).2) (V 0 0 0)) k, k)) 0 (Rk V (V 7 0 0)).1 (by omega) (by omega) rfl (fun k k0 k1 => ?_) ?_
  · have g2 := hR.1.2 k k0 k1
    have g3 := hi.1.2.1 k k0 k1
    have h1 := hb k k0
    have h2 := hl ((Rk V (V 7 0 0)).2 k).1 ((Rk V (V 7 0 0)).2 k).2
    (try dsimp only)
    unfold m_Md_mean_L30b
    simp only [Int.reduceAdd]
    rw [e29, if_neg (by omega), if_pos (by omega), if_pos (by omega), g2.1, g2.2.1, M_likeness M K (by omega) (by omega), Sm_s _ k0]
    have e : Sm (fun i => if i = -1 then 0 else lkA V ((Rk V (V 7 0 0)).2 k).1 ((Rk V (V 7 0 0)).2 k).2 i) (V 0 0 0) = Sm (lkA V ((Rk V (V 7 0 0)).2 k).1 ((Rk V (V 7 0 0)).2 k).2) (V 0 0 0) := Sm_congr (fun i i0 i1 => by rw [if_neg (by omega)])
    rw [e]
    simp only [b1_some, bv_some]
    rw [w64_id (by omega) (by omega), w32_id (by omega) (by omega)]
  · have h1 := hb (Rk V (V 7 0 0)).1 (by omega)
    (try dsimp only)
    unfold m_Md_mean_L30b m_Md_mean_J68
    rw [e29, if_pos (by omega), M_lowest p h ⟨h1.1, by omega⟩ ⟨hn, by omega⟩]
    rfl
theorem A_mean (p : Int) : AA (m_Cb_mean 0 p) (m_Md_mean 126 p) := by
  rintro h ⟨V, R⟩
  obtain ⟨X, M, K, I, T, P⟩ := id R
  have hi := Rk_inv K (V 7 0 0)
  have h00 := hi.1.1
  have hn := K.n
  obtain ⟨h2, e2, r2, f2⟩ := M_orders M K
  have e29 : h2 126 29 = (Rk V (V 7 0 0)).1 := r2.1.1
  unfold m_Cb_mean m_Md_mean
  simp only [Int.zero_add, X_pairsIn X K (V 7 0 0), P_in, P_isPart, b1_some, if10, X_likeReach X K]
  by_cases c : 0 < (Rk V (V 7 0 0)).1 ∧ 0 ≤ p ∧ p ≤ 1
  · have hb : 0 ≤ D2 V (fun x y => if rch V x y then Sm (lkA V x y) (V 0 0 0) else 0) ∧ D2 V (fun x y => if rch V x y then Sm (lkA V x y) (V 0 0 0) else 0) ≤ 32 * 28 := by
      have hs := Rk_sum K (V 7 0 0) (fun q => Sm (lkA V q.1 q.2) (V 0 0 0))
      have hl : ∀ x y, 0 ≤ Sm (lkA V x y) (V 0 0 0) ∧ Sm (lkA V x y) (V 0 0 0) ≤ 32 := fun x y => by
        have := Sm_bd (f := lkA V x y) 0 4 (show 0 ≤ V 0 0 0 by omega) (fun i _ _ => lkA_bd K x y i)
        omega
      have h1 := Sm_bd (f := fun j => Sm (lkA V ((Rk V (V 7 0 0)).2 j).1 ((Rk V (V 7 0 0)).2 j).2) (V 0 0 0)) 0 32 hi.1.1 (fun j _ _ => hl _ _)
      rw [← hs]
      omega
    have Rt1 : Rt 94 97 (D2 V (fun x y => if rch V x y then Sm (lkA V x y) (V 0 0 0) else 0)) (Rk V (V 7 0 0)).1 h _ := Rt_of (o := 94) (to := 97) (h := h) (g := h) (fun p j _ => rfl)
    have R1 : Rl _ V := Rl_fr (Rt_frC (by omega) Rt1) R
    obtain ⟨h3, e3, r3, f3⟩ := M_orders R1.2.1 K
    have e39 : h3 126 29 = (Rk V (V 7 0 0)).1 := r3.1.1
    refine ⟨if p = 0 then rdA (D2 V (fun x y => if rch V x y then Sm (lkA V x y) (V 0 0 0) else 0)) (Rk V (V 7 0 0)).1 else rdB (D2 V (fun x y => if rch V x y then Sm (lkA V x y) (V 0 0 0) else 0)) (Rk V (V 7 0 0)).1, upd2 (upd2 h 97 0 (rdA (D2 V (fun x y => if rch V x y then Sm (lkA V x y) (V 0 0 0) else 0)) (Rk V (V 7 0 0)).1)) 97 1 (rdB (D2 V (fun x y => if rch V x y then Sm (lkA V x y) (V 0 0 0) else 0)) (Rk V (V 7 0 0)).1), h3, ?_, ?_, V, Rl_fr (frR_frC f3) R1⟩
    · rw [if_neg (by omega), if_pos c.2, X_put 97 h ⟨hb.1, by omega⟩ ⟨c.1, by omega⟩]
      simp only [b1_some]
      rw [P_half 97 p _ _ _ Rt1.1 Rt1.2.1]
      rfl
    · rw [e3]
      simp only [b1_some]
      rw [if_pos c.2, e39, if_neg (by omega), M_sumLike K (isM_sm f3.sm R1.2.1) r3 p c.1]
  · refine ⟨-9223372036854775808, h, h2, ?_, ?_, V, Rl_fr (frR_frC f2) R⟩
    · by_cases c1 : (Rk V (V 7 0 0)).1 = 0
      · rw [if_pos c1]
      · rw [if_neg c1, if_neg (by omega)]
    · rw [e2]
      simp only [b1_some]
      rw [e29]
      by_cases c1 : 0 ≤ p ∧ p ≤ 1
      · rw [if_pos c1, if_pos (by omega)]
      · rw [if_neg c1]
