/-! PURE: weights: of how many ways one item's answers are alike, right or wrong -/
theorem Sm4 (f : Int → Int) : Sm f 4 = f 0 + f 1 + f 2 + f 3 := by
  have e : Sm f 4 = 0 + f 0 + f 1 + f 2 + f 3 := rfl
  omega
theorem Sm_out (f : Int → Int) {k : Int} (hk : 0 ≤ k ∧ k < 4) : Sm f 4 = f k + Sm (fun a => if a = k then 0 else f a) 4 := by
  rw [Sm4, Sm4]
  have h : k = 0 ∨ k = 1 ∨ k = 2 ∨ k = 3 := by omega
  rcases h with rfl | rfl | rfl | rfl <;> (try dsimp only) <;> (repeat' split) <;> omega
theorem Sm_nn {f : Int → Int} {n : Int} (hn : 0 ≤ n) (h : ∀ i, 0 ≤ i → i < n → 0 ≤ f i) : 0 ≤ Sm f n := by
  obtain ⟨k, rfl⟩ : ∃ k : Nat, n = k := ⟨n.toNat, by omega⟩
  induction k with
  | zero => simp [Sm_0]
  | succ k ih =>
    have h1 := ih (by omega) (fun i h0 h1 => h i h0 (by omega))
    have h2 := h k (by omega) (by omega)
    rw [show ((k + 1 : Nat) : Int) = (k : Int) + 1 by omega, Sm_s f (by omega)]
    omega
theorem Sm_mono {f : Int → Int} {a b : Int} (ha : 0 ≤ a) (hab : a ≤ b) (h : ∀ i, a ≤ i → i < b → 0 ≤ f i) : Sm f a ≤ Sm f b := by
  obtain ⟨k, rfl⟩ : ∃ k : Nat, b = a + k := ⟨(b - a).toNat, by omega⟩
  induction k with
  | zero => simp
  | succ k ih =>
    have h1 := ih (by omega) (fun i h0 h1 => h i h0 (by omega))
    have h2 := h (a + k) (by omega) (by omega)
    rw [show a + ((k + 1 : Nat) : Int) = (a + (k : Int)) + 1 by omega, Sm_s f (by omega)]
    omega
theorem Sm_mulB {u v : Int → Int} {n B : Int} (hn : 0 ≤ n) (hu : ∀ i, 0 ≤ i → i < n → 0 ≤ u i) (hv : ∀ i, 0 ≤ i → i < n → 0 ≤ v i ∧ v i ≤ B) : 0 ≤ Sm (fun i => u i * v i) n ∧ Sm (fun i => u i * v i) n ≤ Sm u n * B := by
  obtain ⟨k, rfl⟩ : ∃ k : Nat, n = k := ⟨n.toNat, by omega⟩
  induction k with
  | zero => simp [Sm_0]
  | succ k ih =>
    have h1 := ih (by omega) (fun i h0 h1 => hu i h0 (by omega)) (fun i h0 h1 => hv i h0 (by omega))
    have h2 := hu k (by omega) (by omega)
    have h3 := hv k (by omega) (by omega)
    rw [show ((k + 1 : Nat) : Int) = (k : Int) + 1 by omega, Sm_s _ (by omega), Sm_s u (by omega), Int.add_mul]
    have h4 := Int.mul_nonneg h2 h3.1
    have h5 := Int.mul_le_mul_of_nonneg_left h3.2 h2
    (try dsimp only)
    omega
theorem shc4 (V : Vw) (i x y : Int) {n : Int} (hn : 0 ≤ n) : shc V i x y 0 n + shc V i x y 1 n + shc V i x y 2 n + shc V i x y 3 n ≤ n := by
  obtain ⟨k, rfl⟩ : ∃ k : Nat, n = k := ⟨n.toNat, by omega⟩
  induction k with
  | zero => simp [shc, Sm_0]
  | succ k ih =>
    have h1 := ih (by omega)
    have es : ∀ a, shc V i x y a ((k : Int) + 1) = shc V i x y a k + if (V 2 i 0 ≠ 3 ∨ ((k : Int) ≠ x ∧ (k : Int) ≠ y)) ∧ V 4 k i = a then 1 else 0 := fun a => by
      unfold shc
      rw [Sm_s _ (by omega)]
    rw [show ((k + 1 : Nat) : Int) = (k : Int) + 1 by omega, es, es, es, es]
    (repeat' split) <;> omega
theorem sh_sum {V : Vw} (K : okVw V) {i x y : Int} (hi : 0 ≤ i ∧ i < 8) : 4 ≤ Sm (sh V i x y) 4 ∧ Sm (sh V i x y) 4 ≤ 12 := by
  have hm := K.m
  have hb := Sm_bd (f := sh V i x y) 1 9 (show (0 : Int) ≤ 4 by omega) (fun a a0 a1 => sh_bd K hi ⟨a0, a1⟩)
  refine ⟨by omega, ?_⟩
  rw [Sm4]
  have h4 := shc4 V i x y hm.1
  have p0 := K.pt i 0 hi.1 hi.2 (by omega) (by omega)
  have p1 := K.pt i 1 hi.1 hi.2 (by omega) (by omega)
  have p2 := K.pt i 2 hi.1 hi.2 (by omega) (by omega)
  have p3 := K.pt i 3 hi.1 hi.2 (by omega) (by omega)
  unfold sh
  (repeat' split) <;> omega
/-- it's held to what isn't right, and one of the two is right -/
abbrev gvn (s : Int) : Prop := s = 1 ∨ s = 3
abbrev shrt (V : Vw) (x y s i : Int) : Prop := gvn s ∧ (V 4 x i = V 1 i 0 ∨ V 4 y i = V 1 i 0)
/-- a share that counts at all -/
def ct (V : Vw) (x y s i a : Int) : Int := if a = (if gvn s then V 1 i 0 else -1) then 0 else sh V i x y a
def cS (V : Vw) (x y s i : Int) : Int := Sm (ct V x y s i) 4
def cw (V : Vw) (x y s i a : Int) : Int := if s < 2 then ct V x y s i a * ct V x y s i a else if a = V 4 x i then ct V x y s i a else 0
def cN (V : Vw) (x y s i : Int) : Int := if shrt V x y s i then 1 else if s < 2 then cS V x y s i * cS V x y s i else cS V x y s i
def cA (V : Vw) (x y s i : Int) : Int := if shrt V x y s i then (if V 4 x i = V 4 y i then 1 else 0) else cw V x y s i (V 1 i 0)
def cB (V : Vw) (x y s i : Int) : Int := if shrt V x y s i then 0 else Sm (fun a => if a = V 1 i 0 then 0 else cw V x y s i a) 4
section Wt
variable {V : Vw} {x y s i : Int}
theorem ct_bd (K : okVw V) (hi : 0 ≤ i ∧ i < 8) {a : Int} (ha : 0 ≤ a ∧ a < 4) : 0 ≤ ct V x y s i a ∧ ct V x y s i a ≤ 9 ∧ ct V x y s i a ≤ sh V i x y a := by
  have := sh_bd K (x := x) (y := y) hi ha
  unfold ct
  split <;> omega
theorem cS_bd (K : okVw V) (hi : 0 ≤ i ∧ i < 8) : 1 ≤ cS V x y s i ∧ cS V x y s i ≤ 12 := by
  have h1 := sh_sum K (x := x) (y := y) hi
  have h0 := K.ky i hi.1 hi.2
  have b0 := sh_bd K (x := x) (y := y) hi (a := 0) (by omega)
  have b1 := sh_bd K (x := x) (y := y) hi (a := 1) (by omega)
  have b2 := sh_bd K (x := x) (y := y) hi (a := 2) (by omega)
  have b3 := sh_bd K (x := x) (y := y) hi (a := 3) (by omega)
  unfold cS
  rw [Sm4] at h1 ⊢
  unfold ct
  generalize (if gvn s then V 1 i 0 else -1) = k
  (repeat' split) <;> omega
theorem cw_nn (K : okVw V) (hi : 0 ≤ i ∧ i < 8) {a : Int} (ha : 0 ≤ a ∧ a < 4) : 0 ≤ cw V x y s i a := by
  have h := ct_bd K (x := x) (y := y) (s := s) hi ha
  have h1 := Int.mul_nonneg h.1 h.1
  unfold cw
  (repeat' split) <;> omega
theorem sq4 {a b c d : Int} (ha : 0 ≤ a) (hb : 0 ≤ b) (hc : 0 ≤ c) (hd : 0 ≤ d) : a * a + b * b + c * c + d * d ≤ (a + b + c + d) * (a + b + c + d) := by
  have h1 := Int.mul_nonneg ha hb
  have h2 := Int.mul_nonneg ha hc
  have h3 := Int.mul_nonneg ha hd
  have h4 := Int.mul_nonneg hb hc
  have h5 := Int.mul_nonneg hb hd
  have h6 := Int.mul_nonneg hc hd
  have e : (a + b + c + d) * (a + b + c + d) = a * a + b * b + c * c + d * d + 2 * (a * b) + 2 * (a * c) + 2 * (a * d) + 2 * (b * c) + 2 * (b * d) + 2 * (c * d) := by
    have e1 := Int.mul_comm b a
    have e2 := Int.mul_comm c a
    have e3 := Int.mul_comm d a
    have e4 := Int.mul_comm c b
    have e5 := Int.mul_comm d b
    have e6 := Int.mul_comm d c
    simp only [Int.add_mul, Int.mul_add]
    omega
  omega
/-- all weights together are all ways at most -/
theorem cw_sum (K : okVw V) (hi : 0 ≤ i ∧ i < 8) : Sm (cw V x y s i) 4 ≤ (if s < 2 then cS V x y s i * cS V x y s i else cS V x y s i) := by
  have h0 := (ct_bd K (x := x) (y := y) (s := s) hi (a := 0) (by omega)).1
  have h1 := (ct_bd K (x := x) (y := y) (s := s) hi (a := 1) (by omega)).1
  have h2 := (ct_bd K (x := x) (y := y) (s := s) hi (a := 2) (by omega)).1
  have h3 := (ct_bd K (x := x) (y := y) (s := s) hi (a := 3) (by omega)).1
  have h := sq4 h0 h1 h2 h3
  rw [Sm4]
  unfold cw cS
  rw [Sm4]
  by_cases c : s < 2
  · simp only [if_pos c]
    exact h
  · simp only [if_neg c]
    (repeat' split) <;> omega
theorem cN_bd (K : okVw V) (hi : 0 ≤ i ∧ i < 8) : 1 ≤ cN V x y s i ∧ cN V x y s i ≤ 144 := by
  have h := cS_bd K (x := x) (y := y) (s := s) hi
  have h1 := Int.mul_le_mul h.1 h.1 (by omega) (by omega)
  have h2 := Int.mul_le_mul h.2 h.2 (by omega) (by omega)
  unfold cN
  (repeat' split) <;> omega
theorem cAB (K : okVw V) (hi : 0 ≤ i ∧ i < 8) : 0 ≤ cA V x y s i ∧ 0 ≤ cB V x y s i ∧ cA V x y s i + cB V x y s i ≤ cN V x y s i := by
  have hk := K.ky i hi.1 hi.2
  have h := cw_sum K (x := x) (y := y) (s := s) hi
  rw [Sm_out _ (k := V 1 i 0) (by omega)] at h
  have h1 := cw_nn K (x := x) (y := y) (s := s) hi (a := V 1 i 0) (by omega)
  have h2 : 0 ≤ Sm (fun a => if a = V 1 i 0 then 0 else cw V x y s i a) 4 := Sm_nn (by omega) (fun a a0 a1 => by
    have := cw_nn K (x := x) (y := y) (s := s) hi (a := a) (by omega)
    split <;> omega)
  unfold cA cB cN
  by_cases c : shrt V x y s i
  · simp only [if_pos c]
    split <;> omega
  · simp only [if_neg c]
    omega
end Wt
/-! how many ways come to each likeness -/
def wst (r w a b n : Int) (f : Int → Int) : Int → Int := fun k => f k * (n - a - b) + f (k - r) * a + f (k - w) * b
abbrev inc (V : Vw) (x y but i : Int) : Prop := i ≠ but ∧ 0 ≤ V 4 x i ∧ 0 ≤ V 4 y i
def WyN (V : Vw) (x y s but : Int) : Nat → Int → Int
  | 0 => fun k => if k = 0 then 1 else 0
  | m + 1 => if inc V x y but m then wst (V 7 4 0) (V 7 5 0) (cA V x y s m) (cB V x y s m) (cN V x y s m) (WyN V x y s but m) else WyN V x y s but m
def ByN (V : Vw) (x y s but : Int) : Nat → Int
  | 0 => 1
  | m + 1 => if inc V x y but m then ByN V x y s but m * cN V x y s m else ByN V x y s but m
def TyN (V : Vw) (x y but : Int) : Nat → Int
  | 0 => 0
  | m + 1 => if inc V x y but m then TyN V x y but m + max (V 7 4 0) (V 7 5 0) else TyN V x y but m
def Wy (V : Vw) (x y s but n : Int) : Int → Int := WyN V x y s but n.toNat
def By (V : Vw) (x y s but n : Int) : Int := ByN V x y s but n.toNat
def Ty (V : Vw) (x y but n : Int) : Int := TyN V x y but n.toNat
section Wy
variable {V : Vw} {x y s but : Int}
theorem Wy_s {n : Int} (hn : 0 ≤ n) : Wy V x y s but (n + 1) = if inc V x y but n then wst (V 7 4 0) (V 7 5 0) (cA V x y s n) (cB V x y s n) (cN V x y s n) (Wy V x y s but n) else Wy V x y s but n := by
  obtain ⟨k, rfl⟩ : ∃ k : Nat, n = k := ⟨n.toNat, by omega⟩
  unfold Wy
  rw [show ((k : Int) + 1).toNat = k + 1 by omega, show ((k : Int)).toNat = k by omega]
  rfl
theorem By_s {n : Int} (hn : 0 ≤ n) : By V x y s but (n + 1) = if inc V x y but n then By V x y s but n * cN V x y s n else By V x y s but n := by
  obtain ⟨k, rfl⟩ : ∃ k : Nat, n = k := ⟨n.toNat, by omega⟩
  unfold By
  rw [show ((k : Int) + 1).toNat = k + 1 by omega, show ((k : Int)).toNat = k by omega]
  rfl
theorem Ty_s {n : Int} (hn : 0 ≤ n) : Ty V x y but (n + 1) = if inc V x y but n then Ty V x y but n + max (V 7 4 0) (V 7 5 0) else Ty V x y but n := by
  obtain ⟨k, rfl⟩ : ∃ k : Nat, n = k := ⟨n.toNat, by omega⟩
  unfold Ty
  rw [show ((k : Int) + 1).toNat = k + 1 by omega, show ((k : Int)).toNat = k by omega]
  rfl
/-- 144 multiplied with itself -/
def p144 : Nat → Int
  | 0 => 1
  | m + 1 => p144 m * 144
theorem p144_pos (m : Nat) : 1 ≤ p144 m := by
  induction m with
  | zero => exact Int.le_refl 1
  | succ m ih => unfold p144; omega
theorem p144_mono (m : Nat) : p144 m ≤ p144 (m + 1) := by
  have := p144_pos m
  show _ ≤ p144 m * 144
  omega
theorem wst_bd {r w a b n B : Int} {f : Int → Int} (ha : 0 ≤ a) (hb : 0 ≤ b) (hn : a + b ≤ n) (hf : ∀ k, 0 ≤ f k ∧ f k ≤ B) (k : Int) : (0 ≤ f k * (n - a - b) ∧ 0 ≤ f (k - r) * a ∧ 0 ≤ f (k - w) * b) ∧ f k * (n - a - b) + f (k - r) * a + f (k - w) * b ≤ B * n := by
  have h1 := Int.mul_nonneg (hf k).1 (show 0 ≤ n - a - b by omega)
  have h2 := Int.mul_nonneg (hf (k - r)).1 ha
  have h3 := Int.mul_nonneg (hf (k - w)).1 hb
  have h4 := Int.mul_le_mul_of_nonneg_right (hf k).2 (show 0 ≤ n - a - b by omega)
  have h5 := Int.mul_le_mul_of_nonneg_right (hf (k - r)).2 ha
  have h6 := Int.mul_le_mul_of_nonneg_right (hf (k - w)).2 hb
  have e : B * (n - a - b) + B * a + B * b = B * n := by
    rw [← Int.mul_add, ← Int.mul_add]
    congr 1
    omega
  omega
theorem Wy_ok (K : okVw V) (m : Nat) (hm : m ≤ 8) : (∀ k, k < 0 → WyN V x y s but m k = 0) ∧ (∀ k, TyN V x y but m < k → WyN V x y s but m k = 0) ∧ (∀ k, 0 ≤ WyN V x y s but m k ∧ WyN V x y s but m k ≤ ByN V x y s but m) ∧ (1 ≤ ByN V x y s but m ∧ ByN V x y s but m ≤ p144 m) ∧ (0 ≤ TyN V x y but m ∧ TyN V x y but m ≤ 4 * m) := by
  have hu := K.us
  induction m with
  | zero =>
    unfold WyN ByN TyN p144
    refine ⟨fun k hk => ?_, fun k hk => ?_, fun k => ?_, by omega, by omega⟩
    · (try dsimp only); rw [if_neg (by omega)]
    · (try dsimp only); rw [if_neg (by omega)]
    · (try dsimp only); split <;> omega
  | succ m ih =>
    obtain ⟨i1, i2, i3, i4, i5⟩ := ih (by omega)
    have hN := cN_bd K (x := x) (y := y) (s := s) (i := m) (by omega)
    have hAB := cAB K (x := x) (y := y) (s := s) (i := m) (by omega)
    have hp := p144_mono m
    unfold WyN ByN TyN
    by_cases c : inc V x y but m
    · simp only [if_pos c]
      unfold wst
      have hbd := fun k => wst_bd (r := V 7 4 0) (w := V 7 5 0) hAB.1 hAB.2.1 hAB.2.2 i3 k
      refine ⟨fun k hk => ?_, fun k hk => ?_, fun k => ?_, ?_, ?_⟩
      · (try dsimp only)
        rw [i1 _ hk, i1 _ (show k - V 7 4 0 < 0 by omega), i1 _ (show k - V 7 5 0 < 0 by omega)]
        simp
      · (try dsimp only)
        rw [i2 _ (show _ < k by omega), i2 _ (show _ < k - V 7 4 0 by omega), i2 _ (show _ < k - V 7 5 0 by omega)]
        simp
      · have := hbd k
        (try dsimp only)
        omega
      · have h1 := Int.mul_le_mul i4.1 hN.1 (by omega) (by omega)
        have h2 := Int.mul_le_mul i4.2 hN.2 (by omega) (by have := p144_pos m; omega)
        show _ ∧ _ ≤ p144 m * 144
        omega
      · omega
    · simp only [if_neg c]
      exact ⟨i1, i2, i3, by omega, by omega⟩
theorem p144_8 {m : Nat} (hm : m ≤ 8) : p144 m ≤ 184884258895036416 := by
  have e : p144 8 = 184884258895036416 := by decide
  rw [← e]
  obtain ⟨d, rfl⟩ : ∃ d, d = 8 - m := ⟨_, rfl⟩
  have : ∀ d m : Nat, m + d = 8 → p144 m ≤ p144 8 := by
    intro d
    induction d with
    | zero => intro m h; rw [show m = 8 by omega]; exact Int.le_refl _
    | succ d ih => intro m h; exact Int.le_trans (p144_mono m) (ih (m + 1) (by omega))
  exact this (8 - m) m (by omega)
theorem Wy_neg (K : okVw V) {n k : Int} (hn : 0 ≤ n ∧ n ≤ 8) (hk : k < 0) : Wy V x y s but n k = 0 := (Wy_ok K n.toNat (by omega)).1 k hk
theorem Wy_top (K : okVw V) {n k : Int} (hn : 0 ≤ n ∧ n ≤ 8) (hk : Ty V x y but n < k) : Wy V x y s but n k = 0 := (Wy_ok (s := s) K n.toNat (by omega)).2.1 k hk
theorem Wy_bd (K : okVw V) {n : Int} (k : Int) (hn : 0 ≤ n ∧ n ≤ 8) : 0 ≤ Wy V x y s but n k ∧ Wy V x y s but n k ≤ By V x y s but n := (Wy_ok K n.toNat (by omega)).2.2.1 k
theorem By_bd (K : okVw V) {n : Int} (hn : 0 ≤ n ∧ n ≤ 8) : 1 ≤ By V x y s but n ∧ By V x y s but n ≤ 184884258895036416 := by
  have h := (Wy_ok (x := x) (y := y) (s := s) (but := but) K n.toNat (by omega)).2.2.2.1
  have h1 := p144_8 (m := n.toNat) (by omega)
  unfold By
  omega
theorem Ty_bd (K : okVw V) {n : Int} (hn : 0 ≤ n ∧ n ≤ 8) : 0 ≤ Ty V x y but n ∧ Ty V x y but n ≤ 4 * n := by
  have h := (Wy_ok (x := x) (y := y) (s := 0) (but := but) K n.toNat (by omega)).2.2.2.2
  unfold Ty
  omega
end Wy
