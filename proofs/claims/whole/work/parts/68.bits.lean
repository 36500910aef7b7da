/-! PURE: sets of candidates, as bits -/
def is8 (x : Int) : Prop := 0 ≤ x ∧ x < 256
def bt (x d : Int) : Prop := x.toNat.testBit d.toNat = true
theorem bv_toNat {a : Nat} (h : a < 2147483648) : (BitVec.ofInt 32 (a : Int)).toNat = a := by
  rw [BitVec.toNat_ofInt]
  omega
theorem iAnd_n {a b : Nat} (ha : a < 2147483648) (hb : b < 2147483648) : iAnd (a : Int) (b : Int) = ((a &&& b : Nat) : Int) := by
  show (BitVec.ofInt 32 (a : Int) &&& BitVec.ofInt 32 (b : Int)).toInt = _
  have e : (BitVec.ofInt 32 (a : Int) &&& BitVec.ofInt 32 (b : Int)).toNat = a &&& b := by
    rw [BitVec.toNat_and, bv_toNat ha, bv_toNat hb]
  have h : a &&& b ≤ a := Nat.and_le_left
  rw [BitVec.toInt_eq_toNat_of_lt (by rw [e]; omega), e]
theorem iOr_n {a b : Nat} (ha : a < 256) (hb : b < 256) : iOr (a : Int) (b : Int) = ((a ||| b : Nat) : Int) ∧ a ||| b < 256 := by
  have h : a ||| b < 2 ^ 8 := Nat.or_lt_two_pow (by omega) (by omega)
  refine ⟨?_, by omega⟩
  show (BitVec.ofInt 32 (a : Int) ||| BitVec.ofInt 32 (b : Int)).toInt = _
  have e : (BitVec.ofInt 32 (a : Int) ||| BitVec.ofInt 32 (b : Int)).toNat = a ||| b := by
    rw [BitVec.toNat_or, bv_toNat (by omega), bv_toNat (by omega)]
  rw [BitVec.toInt_eq_toNat_of_lt (by rw [e]; omega), e]
theorem iAndNot_n {a b : Nat} (ha : a < 256) (hb : b < 256) : ∃ r : Nat, iAnd (a : Int) (iXor (b : Int) (-1)) = (r : Int) ∧ r < 256 ∧ ∀ i, i < 8 → r.testBit i = (a.testBit i && !b.testBit i) := by
  have e0 : iAnd (a : Int) (iXor (b : Int) (-1)) = (BitVec.ofInt 32 (a : Int) &&& (BitVec.ofInt 32 (b : Int) ^^^ BitVec.ofInt 32 (-1))).toInt := by
    unfold iAnd iXor
    rw [Int32.ofInt_toInt]
    rfl
  have e1 : (BitVec.ofInt 32 (a : Int) &&& (BitVec.ofInt 32 (b : Int) ^^^ BitVec.ofInt 32 (-1))).toNat = a &&& (b ^^^ 4294967295) := by
    rw [BitVec.toNat_and, BitVec.toNat_xor, bv_toNat (by omega), bv_toNat (by omega)]
    rfl
  have h : a &&& (b ^^^ 4294967295) ≤ a := Nat.and_le_left
  refine ⟨a &&& (b ^^^ 4294967295), ?_, by omega, fun i hi => ?_⟩
  · rw [e0, BitVec.toInt_eq_toNat_of_lt (by rw [e1]; omega), e1]
  · rw [Nat.testBit_and, Nat.testBit_xor]
    have h8 : ∀ i : Fin 8, (4294967295 : Nat).testBit i = true := by decide
    have := h8 ⟨i, hi⟩
    (try dsimp only at this)
    rw [this]
    cases a.testBit i <;> cases b.testBit i <;> rfl
theorem is8_n {x : Int} (h : is8 x) : ∃ n : Nat, x = n ∧ n < 256 := ⟨x.toNat, by have := h.1; omega, by have := h.1; have := h.2; omega⟩
theorem bt_n {n : Nat} {d : Int} (hd : 0 ≤ d) : bt (n : Int) d ↔ n.testBit d.toNat = true := Iff.rfl
theorem is8_and {x y : Int} (hx : is8 x) (hy : is8 y) : is8 (iAnd x y) ∧ ∀ d, bt (iAnd x y) d ↔ bt x d ∧ bt y d := by
  obtain ⟨a, rfl, ha⟩ := is8_n hx
  obtain ⟨b, rfl, hb⟩ := is8_n hy
  have h : a &&& b ≤ a := Nat.and_le_left
  rw [iAnd_n (by omega) (by omega)]
  refine ⟨⟨by omega, by omega⟩, fun d => ?_⟩
  show (a &&& b).testBit d.toNat = true ↔ a.testBit d.toNat = true ∧ b.testBit d.toNat = true
  rw [Nat.testBit_and, Bool.and_eq_true]
theorem is8_or {x y : Int} (hx : is8 x) (hy : is8 y) : is8 (iOr x y) ∧ ∀ d, bt (iOr x y) d ↔ bt x d ∨ bt y d := by
  obtain ⟨a, rfl, ha⟩ := is8_n hx
  obtain ⟨b, rfl, hb⟩ := is8_n hy
  have h := iOr_n ha hb
  rw [h.1]
  refine ⟨⟨by omega, by omega⟩, fun d => ?_⟩
  show (a ||| b).testBit d.toNat = true ↔ a.testBit d.toNat = true ∨ b.testBit d.toNat = true
  rw [Nat.testBit_or, Bool.or_eq_true]
theorem is8_not {x y : Int} (hx : is8 x) (hy : is8 y) : is8 (iAnd x (iXor y (-1))) ∧ ∀ d, 0 ≤ d → d < 8 → (bt (iAnd x (iXor y (-1))) d ↔ bt x d ∧ ¬ bt y d) := by
  obtain ⟨a, rfl, ha⟩ := is8_n hx
  obtain ⟨b, rfl, hb⟩ := is8_n hy
  obtain ⟨r, e, hr, ht⟩ := iAndNot_n ha hb
  rw [e]
  refine ⟨⟨by omega, by omega⟩, fun d d0 d1 => ?_⟩
  show r.testBit d.toNat = true ↔ a.testBit d.toNat = true ∧ ¬ b.testBit d.toNat = true
  rw [ht _ (by omega)]
  cases a.testBit d.toNat <;> cases b.testBit d.toNat <;> decide
theorem is8_hi {x d : Int} (hx : is8 x) (hd : 8 ≤ d) : ¬ bt x d := by
  obtain ⟨a, rfl, ha⟩ := is8_n hx
  show ¬ a.testBit d.toNat = true
  have h : a < 2 ^ d.toNat := Nat.lt_of_lt_of_le (show a < 2 ^ 8 by omega) (Nat.pow_le_pow_right (by omega) (by omega))
  rw [Nat.testBit_lt_two_pow h]
  decide
theorem is8_ext {x y : Int} (hx : is8 x) (hy : is8 y) (h : ∀ d, 0 ≤ d → d < 8 → (bt x d ↔ bt y d)) : x = y := by
  have hx' := hx
  have hy' := hy
  obtain ⟨a, rfl, ha⟩ := is8_n hx
  obtain ⟨b, rfl, hb⟩ := is8_n hy
  congr 1
  refine Nat.eq_of_testBit_eq (fun i => ?_)
  by_cases c : i < 8
  · have := h i (by omega) (by omega)
    unfold bt at this
    rw [show ((a : Int)).toNat = a by omega, show ((b : Int)).toNat = b by omega, show ((i : Int)).toNat = i by omega] at this
    exact Bool.eq_iff_iff.mpr this
  · have h1 := is8_hi hx' (d := i) (by omega)
    have h2 := is8_hi hy' (d := i) (by omega)
    unfold bt at h1 h2
    rw [show ((a : Int)).toNat = a by omega, show ((i : Int)).toNat = i by omega] at h1
    rw [show ((b : Int)).toNat = b by omega, show ((i : Int)).toNat = i by omega] at h2
    rw [Bool.eq_false_iff.mpr h1, Bool.eq_false_iff.mpr h2]
theorem is8_0 : is8 0 ∧ ∀ d, ¬ bt 0 d := by
  refine ⟨⟨by omega, by omega⟩, fun d => ?_⟩
  show ¬ (0 : Nat).testBit d.toNat = true
  rw [Nat.zero_testBit]
  decide
theorem is8_z {x : Int} (hx : is8 x) : x = 0 ↔ ∀ d, 0 ≤ d → d < 8 → ¬ bt x d := by
  refine ⟨fun e d _ _ => by rw [e]; exact is8_0.2 d, fun h => is8_ext hx is8_0.1 (fun d a b => ⟨fun q => absurd q (h d a b), fun q => absurd q (is8_0.2 d)⟩)⟩
set_option maxRecDepth 100000 in
theorem fin_bit : ∀ x : Fin 256, ∀ d : Fin 8, iAnd (iShr (x.val : Int) (d.val : Int)) 1 = if x.val.testBit d.val = true then 1 else 0 := by decide +kernel
theorem fin_sh : ∀ c : Fin 8, iShl 1 (c.val : Int) = ((2 ^ c.val : Nat) : Int) := by decide +kernel
theorem bit_get {x d : Int} (hx : is8 x) (hd : 0 ≤ d ∧ d < 8) : (bt x d ∧ iAnd (iShr x d) 1 = 1) ∨ (¬ bt x d ∧ iAnd (iShr x d) 1 = 0) := by
  obtain ⟨a, rfl, ha⟩ := is8_n hx
  obtain ⟨k, rfl⟩ : ∃ k : Nat, d = k := ⟨d.toNat, by omega⟩
  have h := fin_bit ⟨a, ha⟩ ⟨k, by omega⟩
  (try dsimp only at h)
  unfold bt
  rw [show ((a : Int)).toNat = a by omega, show ((k : Int)).toNat = k by omega, h]
  by_cases c : a.testBit k = true
  · rw [if_pos c]
    exact Or.inl ⟨c, rfl⟩
  · rw [if_neg c]
    exact Or.inr ⟨c, rfl⟩
theorem is8_sh {c : Int} (hc : 0 ≤ c ∧ c < 8) : is8 (iShl 1 c) ∧ ∀ d, 0 ≤ d → (bt (iShl 1 c) d ↔ d = c) := by
  obtain ⟨k, rfl⟩ : ∃ k : Nat, c = k := ⟨c.toNat, by omega⟩
  have h := fin_sh ⟨k, by omega⟩
  (try dsimp only at h)
  rw [h]
  have h2 : 2 ^ k < 2 ^ 8 := Nat.pow_lt_pow_right (by omega) (by omega)
  refine ⟨⟨Int.natCast_nonneg _, Int.ofNat_lt.mpr h2⟩, fun d d0 => ?_⟩
  show (2 ^ k).testBit d.toNat = true ↔ d = k
  rw [Nat.testBit_two_pow]
  constructor
  · intro q
    have := of_decide_eq_true q
    omega
  · intro q
    exact decide_eq_true (by omega)
/-- how many bits -/
def pc (x : Int) : Int := Sm (fun d => if x.toNat.testBit d.toNat = true then 1 else 0) 8
def hz : HP := fun _ _ => 0
set_option maxRecDepth 100000 in
theorem fin_pc : ∀ x : Fin 256, m_Jint_bitCount (x.val : Int) hz = some (pc (x.val : Int)) := by decide +kernel
set_option maxRecDepth 100000 in
theorem fin_one : ∀ x : Fin 256, 0 < x.val → ((iAnd (x.val : Int) (w32 ((x.val : Int) - 1)) = 0) ↔ pc (x.val : Int) < 2) := by decide +kernel
theorem P_bits {x : Int} (hx : is8 x) (h : HP) : m_Jint_bitCount x h = some (pc x) := by
  obtain ⟨a, rfl, ha⟩ := is8_n hx
  have e := fin_pc ⟨a, ha⟩
  exact e
theorem P_one {x : Int} (hx : is8 x) (h0 : 0 < x) : (iAnd x (w32 (x - 1)) = 0) ↔ pc x < 2 := by
  obtain ⟨a, rfl, ha⟩ := is8_n hx
  have e := fin_one ⟨a, ha⟩ (by (try dsimp only); omega)
  exact e
theorem pc_bd (x : Int) : 0 ≤ pc x ∧ pc x ≤ 8 := by
  have := Sm_bd (f := fun d => if x.toNat.testBit d.toNat = true then 1 else 0) 0 1 (show (0 : Int) ≤ 8 by omega) (fun d _ _ => by (try dsimp only); split <;> omega)
  unfold pc
  omega
theorem iAnd_m1 {x : Int} (hx : is8 x) : iAnd x (-1) = x := by
  obtain ⟨a, rfl, ha⟩ := is8_n hx
  show (BitVec.ofInt 32 (a : Int) &&& BitVec.ofInt 32 (-1)).toInt = _
  have e : (BitVec.ofInt 32 (a : Int) &&& BitVec.ofInt 32 (-1)).toNat = a := by
    rw [BitVec.toNat_and, bv_toNat (by omega)]
    show a &&& (2 ^ 32 - 1) = a
    rw [Nat.and_two_pow_sub_one_eq_mod]
    omega
  rw [BitVec.toInt_eq_toNat_of_lt (by rw [e]; omega), e]
/-- one who is in, if there are any -/
theorem pc_any {x : Int} (h : 0 < pc x) : ∃ d, 0 ≤ d ∧ d < 8 ∧ bt x d := by
  apply Classical.byContradiction
  intro q
  have e : pc x = Sm (fun _ => 0) 8 := Sm_congr (fun d d0 d1 => by
    (try dsimp only)
    have q1 : ¬ x.toNat.testBit d.toNat = true := fun w => q ⟨d, d0, d1, w⟩
    rw [if_neg q1])
  have e2 : Sm (fun _ => 0) 8 = 0 := rfl
  omega
theorem iOr_0 {x : Int} (hx : is8 x) : iOr x 0 = x := by
  have h := is8_or hx is8_0.1
  exact is8_ext h.1 hx (fun d _ _ => ⟨fun q => ((h.2 d).1 q).resolve_right (is8_0.2 d), fun q => (h.2 d).2 (Or.inl q)⟩)
set_option maxRecDepth 100000 in
/-- below 2 to the m: no bit from m on -/
theorem fin_low : ∀ m : Fin 9, (iShl 1 (m.val : Int) = ((2 ^ m.val : Nat) : Int)) ∧ w32 (iShl 1 (m.val : Int) - 1) = ((2 ^ m.val - 1 : Nat) : Int) := by decide +kernel
theorem sh_low {m : Int} (hm : 0 ≤ m ∧ m ≤ 8) : is8 (w32 (iShl 1 m - 1)) ∧ (∀ d, 0 ≤ d → (bt (w32 (iShl 1 m - 1)) d ↔ d < m)) ∧ (∀ x, is8 x → (x < iShl 1 m ↔ ∀ d, m ≤ d → ¬ bt x d)) ∧ 1 ≤ iShl 1 m ∧ iShl 1 m ≤ 256 := by
  obtain ⟨k, rfl⟩ : ∃ k : Nat, m = k := ⟨m.toNat, by omega⟩
  have h := fin_low ⟨k, by omega⟩
  (try dsimp only at h)
  rw [h.2, h.1]
  have h2 : 2 ^ k ≤ 2 ^ 8 := Nat.pow_le_pow_right (by omega) (by omega)
  have h3 : 0 < 2 ^ k := Nat.pow_pos (by omega)
  have h4 : ((2 ^ k : Nat) : Int) ≤ 256 := Int.ofNat_le.mpr h2
  have h5 : (1 : Int) ≤ ((2 ^ k : Nat) : Int) := Int.ofNat_le.mpr h3
  have h6 : (((2 ^ k - 1 : Nat)) : Int) < 256 := Int.ofNat_lt.mpr (show 2 ^ k - 1 < 2 ^ 8 by omega)
  refine ⟨⟨Int.natCast_nonneg _, h6⟩, fun d d0 => ?_, fun x hx => ?_, h5, h4⟩
  · show (2 ^ k - 1).testBit d.toNat = true ↔ d < k
    rw [Nat.testBit_two_pow_sub_one]
    constructor
    · intro q
      have := of_decide_eq_true q
      omega
    · intro q
      exact decide_eq_true (by omega)
  · obtain ⟨a, rfl, ha⟩ := is8_n hx
    constructor
    · intro q d hd
      show ¬ a.testBit d.toNat = true
      have h4 : a < 2 ^ d.toNat := Nat.lt_of_lt_of_le (show a < 2 ^ k from Int.ofNat_lt.mp q) (Nat.pow_le_pow_right (by omega) (by omega))
      rw [Nat.testBit_lt_two_pow h4]
      decide
    · intro q
      have : a < 2 ^ k := Nat.lt_pow_two_of_testBit a (fun i hi => by
        have := q i (by omega)
        unfold bt at this
        rw [show ((a : Int)).toNat = a by omega, show ((i : Int)).toNat = i by omega] at this
        exact Bool.eq_false_iff.mpr this)
      exact Int.ofNat_lt.mpr this
