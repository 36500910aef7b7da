/-! PURE: dividing on: common divisors, fractions held against each other -/
theorem ofInt_div64 {x y : Int} (hx : 0 ≤ x ∧ x < 9223372036854775808) (hy : 0 < y ∧ y < 9223372036854775808) : (Int64.ofInt x / Int64.ofInt y).toInt = x / y := by
  have ey : (Int64.ofInt y).toInt = y := toI64 ⟨by omega, by omega⟩
  have ex : (Int64.ofInt x).toInt = x := toI64 ⟨by omega, by omega⟩
  have hn : Int64.ofInt y ≠ -1 := fun e => by
    have h := congrArg Int64.toInt e
    rw [ey] at h
    have h1 : (-1 : Int64).toInt = -1 := by decide
    omega
  rw [Int64.toInt_div_of_ne_right _ _ hn, ex, ey, Int.tdiv_eq_ediv_of_nonneg hx.1]
theorem lDiv_e {x y : Int} (hx : 0 ≤ x ∧ x < 9223372036854775808) (hy : 0 < y ∧ y < 9223372036854775808) : lDiv x y = x / y := ofInt_div64 hx hy
theorem div_bd {x y : Int} (hx : 0 ≤ x) (hy : 0 < y) : 0 ≤ x / y ∧ x / y ≤ x := ⟨Int.ediv_nonneg hx (by omega), Int.ediv_le_self y hx⟩
theorem lRem_e {x y : Int} (hx : 0 ≤ x ∧ x < 9223372036854775808) (hy : 0 < y ∧ y < 9223372036854775808) : lRem x y = x % y := by
  have hb := div_bd hx.1 hy.1
  have e : Int64.ofInt x / Int64.ofInt y = Int64.ofInt (x / y) := by
    apply Int64.toInt_inj.mp
    rw [ofInt_div64 hx hy, toI64 ⟨by omega, by omega⟩]
  have e2 := Int.mul_ediv_add_emod x y
  have e3 : x / y * y = y * (x / y) := Int.mul_comm _ _
  have h1 := Int.emod_nonneg x (show y ≠ 0 by omega)
  have h2 := Int.emod_lt_of_pos x hy.1
  unfold lRem
  rw [e, mul64, sub64, toI64 ⟨by omega, by omega⟩]
  omega
theorem rem_bd {x y : Int} (hy : 0 < y) : 0 ≤ x % y ∧ x % y < y := ⟨Int.emod_nonneg x (by omega), Int.emod_lt_of_pos x hy⟩
theorem lCmp_0 (x y : Int) : lCmp x y = 0 ↔ x = y := by
  unfold lCmp
  (repeat' split) <;> omega
theorem lCmp_le (x y : Int) : 0 ≤ lCmp x y ↔ y ≤ x := by
  unfold lCmp
  (repeat' split) <;> omega
theorem lCmp_le0 (x y : Int) : lCmp x y ≤ 0 ↔ x ≤ y := by
  unfold lCmp
  (repeat' split) <;> omega
/-- dividing on ends within m steps -/
def es : Nat → Int → Int → Prop
  | 0, _, b => b = 0
  | m + 1, a, b => b = 0 ∨ es m b (a % b)
theorem es_of (m : Nat) : ∀ a b : Int, 0 ≤ b → b ≤ a → a * b < 2 ^ m → es m a b := by
  induction m with
  | zero =>
    intro a b hb hab h
    unfold es
    rcases Int.lt_or_le 0 b with h0 | h0
    · exfalso
      have h1 := Int.mul_le_mul (show (1 : Int) ≤ a by omega) (show (1 : Int) ≤ b by omega) (by omega) (show 0 ≤ a by omega)
      have h2 : (2 : Int) ^ 0 = 1 := rfl
      omega
    · omega
  | succ m ih =>
    intro a b hb hab h
    unfold es
    rcases Int.lt_or_le 0 b with h0 | h0
    · refine Or.inr (ih b (a % b) (rem_bd h0).1 (Int.le_of_lt (rem_bd h0).2) ?_)
      have e := Int.mul_ediv_add_emod a b
      have q : 1 ≤ a / b := Int.le_ediv_of_mul_le h0 (by omega)
      have q2 := Int.mul_le_mul_of_nonneg_left q hb
      have h2 := (rem_bd (x := a) h0).2
      have h3 : 2 * (a % b) < a := by omega
      have h4 := Int.mul_lt_mul_of_pos_left h3 h0
      have h5 : b * (2 * (a % b)) = 2 * (b * (a % b)) := by rw [Int.mul_left_comm]
      have h6 : b * a = a * b := Int.mul_comm _ _
      have h7 : (2 : Int) ^ (m + 1) = 2 ^ m * 2 := Int.pow_succ 2 m
      omega
    · exact Or.inl (by omega)
theorem es_128 {a b : Int} (ha : 0 ≤ a ∧ a < 9223372036854775808) (hb : 0 ≤ b ∧ b < 9223372036854775808) : es 128 a b := by
  show b = 0 ∨ es 127 b (a % b)
  rcases Int.lt_or_le 0 b with h0 | h0
  · have h2 := rem_bd (x := a) h0
    refine Or.inr (es_of 127 b (a % b) h2.1 (by omega) ?_)
    have h1 := Int.mul_le_mul (show b ≤ 9223372036854775808 by omega) (show a % b ≤ 9223372036854775808 by omega) h2.1 (by omega)
    have h3 : (9223372036854775808 : Int) * 9223372036854775808 < 2 ^ 127 := by decide
    omega
  · exact Or.inl (by omega)
theorem gcd_step (a b : Int) : Int.gcd a b = Int.gcd b (a % b) := by
  have e := Int.mul_ediv_add_emod a b
  have h := Int.gcd_add_mul_left_right b (a % b) (a / b)
  rw [Int.add_comm, e] at h
  rw [← h, Int.gcd_comm]
theorem X_gcd_loop (h : HP) : ∀ (m N : Nat) (a b st : Int), es m a b → 0 ≤ a ∧ a < 9223372036854775808 → 0 ≤ b ∧ b < 9223372036854775808 → 0 ≤ st → st + m < 1000 → m < N → loopO (fun s : Int × Int × Int => m_Ratio_commonDivisor_L3b h s.1 s.2.1 s.2.2) N (a, b, st) = some (Int.gcd a b : Int) := by
  intro m
  induction m with
  | zero =>
    intro N a b st he ha hb h0 h1 hN
    obtain ⟨M, rfl⟩ : ∃ M, N = M + 1 := ⟨N - 1, by omega⟩
    unfold es at he
    subst he
    unfold loopO
    dsimp only
    unfold m_Ratio_commonDivisor_L3b
    rw [if_neg (by omega), if_pos ((lCmp_0 _ _).2 rfl)]
    dsimp only
    rw [Int.gcd_zero]
    congr 1
    omega
  | succ m ih =>
    intro N a b st he ha hb h0 h1 hN
    obtain ⟨M, rfl⟩ : ∃ M, N = M + 1 := ⟨N - 1, by omega⟩
    unfold loopO
    dsimp only
    unfold m_Ratio_commonDivisor_L3b
    by_cases c : b = 0
    · subst c
      rw [if_neg (by omega), if_pos ((lCmp_0 _ _).2 rfl)]
      dsimp only
      rw [Int.gcd_zero]
      congr 1
      omega
    · have hr := rem_bd (x := a) (show 0 < b by omega)
      rw [if_neg (by omega), if_neg (fun q => c ((lCmp_0 _ _).1 q)), if_neg c, lRem_e ha (by omega), w32_id (by omega) (by omega)]
      simp only [bv_some]
      rw [gcd_step a b]
      rcases he with he | he
      · exact absurd he c
      · exact ih M b (a % b) (st + 1) he hb (by omega) (by omega) (by omega) (by omega)
theorem X_gcd (h : HP) {a b : Int} (ha : 0 ≤ a ∧ a < 9223372036854775808) (hb : 0 ≤ b ∧ b < 9223372036854775808) : m_Ratio_commonDivisor a b h = some (Int.gcd a b : Int) := by
  unfold m_Ratio_commonDivisor m_Ratio_commonDivisor_L3
  exact X_gcd_loop h 128 FUEL a b 0 (es_128 ha hb) ha hb (by omega) (by omega) (by unfold FUEL; omega)
/-- in lowest terms -/
def rdA (a b : Int) : Int := a / (Int.gcd a b : Int)
def rdB (a b : Int) : Int := b / (Int.gcd a b : Int)
theorem gcd_pos {a b : Int} (hb : 0 < b) : 0 < (Int.gcd a b : Int) ∧ (Int.gcd a b : Int) ≤ b := by
  have := Int.gcd_pos_of_ne_zero_right a (show b ≠ 0 by omega)
  exact ⟨by omega, Int.gcd_le_right a hb⟩
theorem rd_e {a b : Int} (hb : 0 < b) : rdA a b * (Int.gcd a b : Int) = a ∧ rdB a b * (Int.gcd a b : Int) = b := by
  unfold rdA rdB
  exact ⟨Int.ediv_mul_cancel (Int.gcd_dvd_left a b), Int.ediv_mul_cancel (Int.gcd_dvd_right a b)⟩
theorem rd_bd {a b : Int} (ha : 0 ≤ a) (hb : 0 < b) : (0 ≤ rdA a b ∧ rdA a b ≤ a) ∧ (0 < rdB a b ∧ rdB a b ≤ b) := by
  have hg := gcd_pos (a := a) hb
  have h1 := div_bd ha hg.1
  have h2 := div_bd (show 0 ≤ b by omega) hg.1
  have e := (rd_e (a := a) hb).2
  refine ⟨h1, ?_, h2.2⟩
  rcases Int.lt_or_le 0 (rdB a b) with q | q
  · exact q
  · have h3 : rdB a b = 0 := by
      unfold rdB at q ⊢
      omega
    rw [h3] at e
    omega
theorem X_put (o : Int) {a b : Int} (h : HP) (ha : 0 ≤ a ∧ a < 9223372036854775808) (hb : 0 < b ∧ b < 9223372036854775808) : m_Ratio_put o a b h = some (upd2 (upd2 h o 0 (rdA a b)) o 1 (rdB a b)) := by
  have hg := gcd_pos (a := a) hb.1
  unfold m_Ratio_put
  rw [X_gcd h ha (by omega)]
  simp only [b1_some]
  rw [if_neg (fun q => by have := (lCmp_le0 _ _).1 q; omega)]
  simp (disch := omega) only [if_neg, bv_some, lDiv_e]
  rfl
theorem M_lowest_loop (l0 l2 x4 g : Int) (h : HP) (h0 : 0 ≤ l0 ∧ l0 < 9223372036854775808) (h2 : 0 < l2 ∧ l2 < 9223372036854775808) : ∀ (m N : Nat) (a b : Int), es m a b → 0 ≤ a ∧ a < 9223372036854775808 → 0 ≤ b ∧ b < 9223372036854775808 → m < N → (Int.gcd a b : Int) = g → 0 < g → loopO (fun s : Int × Int => m_Md_lowest_L6b l0 l2 x4 h s.1 s.2) N (a, b) = some (if x4 = 0 then l0 / g else l2 / g) := by
  have fin : ∀ a : Int, 0 ≤ a ∧ a < 9223372036854775808 → (Int.gcd a 0 : Int) = g → 0 < g → m_Md_lowest_L6b l0 l2 x4 h a 0 = some (.inr (if x4 = 0 then l0 / g else l2 / g)) := by
    intro a ha hg hp
    have e : a = g := by
      rw [Int.gcd_zero] at hg
      omega
    unfold m_Md_lowest_L6b m_Md_lowest_J31
    rw [if_pos ((lCmp_0 _ _).2 rfl), e]
    simp (disch := omega) only [if_neg, lDiv_e]
    split <;> rfl
  intro m
  induction m with
  | zero =>
    intro N a b he ha hb hN hg hp
    obtain ⟨M, rfl⟩ : ∃ M, N = M + 1 := ⟨N - 1, by omega⟩
    unfold es at he
    subst he
    unfold loopO
    dsimp only
    rw [fin a ha hg hp]
  | succ m ih =>
    intro N a b he ha hb hN hg hp
    obtain ⟨M, rfl⟩ : ∃ M, N = M + 1 := ⟨N - 1, by omega⟩
    unfold loopO
    dsimp only
    by_cases c : b = 0
    · subst c
      rw [fin a ha hg hp]
    · have hr := rem_bd (x := a) (show 0 < b by omega)
      unfold m_Md_lowest_L6b
      rw [if_neg (fun q => c ((lCmp_0 _ _).1 q)), if_neg c, lRem_e ha (by omega)]
      simp only [bv_some]
      rcases he with he | he
      · exact absurd he c
      · exact ih M b (a % b) he hb (by omega) (by omega) (by rw [← gcd_step]; exact hg) hp
theorem M_lowest (x4 : Int) {a b : Int} (h : HP) (ha : 0 ≤ a ∧ a < 9223372036854775808) (hb : 0 < b ∧ b < 9223372036854775808) : m_Md_lowest a b x4 h = some (if x4 = 0 then rdA a b else rdB a b) := by
  unfold m_Md_lowest m_Md_lowest_L6
  exact M_lowest_loop a b x4 _ h ha hb 128 FUEL a b (es_128 ha (by omega)) ha (by omega) (by unfold FUEL; omega) rfl (gcd_pos hb.1).1
/-- a by b against c by d -/
def sgn (x : Int) : Int := if x < 0 then -1 else if x = 0 then 0 else 1
def cmp4 (a b c d : Int) : Int := sgn (a * d - c * b)
theorem sgn_neg (x : Int) : sgn (-x) = - sgn x := by
  unfold sgn
  (repeat' split) <;> omega
theorem sgn_bd (x : Int) : -1 ≤ sgn x ∧ sgn x ≤ 1 := by
  unfold sgn
  (repeat' split) <;> omega
theorem sgn_lt {x : Int} (h : x < 0) : sgn x = -1 := by
  unfold sgn
  rw [if_pos h]
theorem sgn_gt {x : Int} (h : 0 < x) : sgn x = 1 := by
  unfold sgn
  rw [if_neg (by omega), if_neg (by omega)]
theorem sgn_0 : sgn 0 = 0 := rfl
theorem cmp_lt {a b c d : Int} (hb : 0 < b) (hd : 0 < d) (h : a / b < c / d) : a * d - c * b < 0 := by
  have h1 := Int.lt_ediv_add_one_mul_self a hb
  have h2 := Int.ediv_mul_le c (show d ≠ 0 by omega)
  have h3 := Int.mul_lt_mul_of_pos_right h1 hd
  have h4 := Int.mul_le_mul_of_nonneg_right h2 (show 0 ≤ b by omega)
  have h5 := Int.mul_le_mul_of_nonneg_right (show a / b + 1 ≤ c / d by omega) (show 0 ≤ b * d from Int.le_of_lt (Int.mul_pos hb hd))
  have e1 : (a / b + 1) * b * d = (a / b + 1) * (b * d) := Int.mul_assoc _ _ _
  have e2 : c / d * d * b = c / d * (b * d) := by rw [Int.mul_assoc, Int.mul_comm d b]
  omega
theorem cmp_ne {a b c d : Int} (hb : 0 < b) (hd : 0 < d) (h : ¬ a / b = c / d) : cmp4 a b c d = if c / d ≤ a / b then 1 else -1 := by
  unfold cmp4
  split
  · have := cmp_lt hd hb (a := c) (c := a) (by omega)
    exact sgn_gt (by omega)
  · exact sgn_lt (cmp_lt hb hd (by omega))
theorem cmp_eq {a b c d : Int} (h : a / b = c / d) : a * d - c * b = (a % b) * d - (c % d) * b := by
  have e1 := Int.mul_ediv_add_emod a b
  have e2 := Int.mul_ediv_add_emod c d
  have h1 : a * d = (b * (a / b)) * d + (a % b) * d := by rw [← Int.add_mul, e1]
  have h2 : c * b = (d * (c / d)) * b + (c % d) * b := by rw [← Int.add_mul, e2]
  have h3 : b * (a / b) * d = d * (c / d) * b := by
    rw [h, Int.mul_right_comm, Int.mul_comm b d, Int.mul_right_comm]
  omega
theorem cmp_turn {a b c d : Int} (h : a / b = c / d) : cmp4 a b c d = - cmp4 b (a % b) d (c % d) := by
  unfold cmp4
  rw [cmp_eq h, ← sgn_neg]
  congr 1
  have e1 : a % b * d = d * (a % b) := Int.mul_comm _ _
  have e2 : c % d * b = b * (c % d) := Int.mul_comm _ _
  omega
theorem X_cmp_loop (h : HP) : ∀ (m N : Nat) (a b c d sg st : Int), es m a b → 0 ≤ a ∧ a < 9223372036854775808 → 0 ≤ b ∧ b < 9223372036854775808 → 0 ≤ c ∧ c < 9223372036854775808 → 0 ≤ d ∧ d < 9223372036854775808 → (b = 0 → 0 < a) → (d = 0 → 0 < c) → (sg = 1 ∨ sg = -1) → 0 ≤ st → st + m < 1000 → m < N → loopO (fun s : Int × Int × Int × Int × Int × Int => m_Ratio_compare_L6b h s.1 s.2.1 s.2.2.1 s.2.2.2.1 s.2.2.2.2.1 s.2.2.2.2.2) N (a, b, c, d, sg, st) = some (sg * cmp4 a b c d) := by
  intro m
  have fin : ∀ a b c d sg st : Int, 0 ≤ b → 0 ≤ d → (b = 0 → 0 < a) → (d = 0 → 0 < c) → (sg = 1 ∨ sg = -1) → (b = 0 ∨ d = 0) → st < 1000 → m_Ratio_compare_L6b h a b c d sg st = some (.inr (sg * cmp4 a b c d)) := by
    intro a b c d sg st hb hd hb0 hd0 hs hz hst
    have hJ : m_Ratio_compare_J106 b d sg h = some (sg * cmp4 a b c d) := by
      unfold m_Ratio_compare_J106 m_Ratio_compare_J121 cmp4
      by_cases cb : b = 0
      · subst cb
        rw [if_pos ((lCmp_0 _ _).2 rfl), if_pos ((lCmp_0 _ _).2 rfl)]
        by_cases cd : d = 0
        · subst cd
          rw [if_pos ((lCmp_0 _ _).2 rfl), Int.mul_zero, Int.mul_zero]
          simp [sgn_0]
        · rw [if_neg (fun q => cd ((lCmp_0 _ _).1 q)), Int.mul_zero]
          have := Int.mul_pos (hb0 rfl) (show 0 < d by omega)
          rw [sgn_gt (by omega), Int.mul_one]
      · have cd : d = 0 := hz.resolve_left cb
        subst cd
        rw [if_neg (fun q => cb ((lCmp_0 _ _).1 q)), if_neg (fun q => cb ((lCmp_0 _ _).1 q)), Int.mul_zero]
        have := Int.mul_pos (hd0 rfl) (show 0 < b by omega)
        rw [sgn_lt (by omega), w32_id (by omega) (by omega)]
        congr 1
        omega
    unfold m_Ratio_compare_L6b
    rw [hJ]
    simp only [b1_some, lCmp_0]
    rw [if_neg (by omega)]
    by_cases cb : b = 0
    · rw [if_pos cb]
    · rw [if_neg cb, if_pos (hz.resolve_left cb)]
  induction m with
  | zero =>
    intro N a b c d sg st he ha hb hc hd hb0 hd0 hs h0 h1 hN
    obtain ⟨M, rfl⟩ : ∃ M, N = M + 1 := ⟨N - 1, by omega⟩
    unfold es at he
    unfold loopO
    dsimp only
    rw [fin a b c d sg st hb.1 hd.1 hb0 hd0 hs (Or.inl he) (by omega)]
  | succ m ih =>
    intro N a b c d sg st he ha hb hc hd hb0 hd0 hs h0 h1 hN
    obtain ⟨M, rfl⟩ : ∃ M, N = M + 1 := ⟨N - 1, by omega⟩
    unfold loopO
    dsimp only
    by_cases z : b = 0 ∨ d = 0
    · rw [fin a b c d sg st hb.1 hd.1 hb0 hd0 hs z (by omega)]
    · have h2 := rem_bd (x := a) (show 0 < b by omega)
      have h3 := rem_bd (x := c) (show 0 < d by omega)
      have h4 := div_bd ha.1 (show 0 < b by omega)
      have h5 := div_bd hc.1 (show 0 < d by omega)
      have e1 := Int.mul_ediv_add_emod a b
      have e2 := Int.mul_ediv_add_emod c d
      have e3 : a / b * b = b * (a / b) := Int.mul_comm _ _
      have e4 : c / d * d = d * (c / d) := Int.mul_comm _ _
      by_cases q : a / b = c / d
      · have hst : m_Ratio_compare_L6b h a b c d sg st = some (.inl (b, a % b, d, c % d, -sg, st + 1)) := by
          unfold m_Ratio_compare_L6b
          simp only [lCmp_0]
          simp (disch := omega) only [if_neg, bv_some, lDiv_e]
          rw [if_pos q, w64_id (x := a / b * b) (by omega) (by omega), w64_id (x := c / d * d) (by omega) (by omega), w64_id (by omega) (by omega), w64_id (by omega) (by omega), w32_id (by omega) (by omega), w32_id (by omega) (by omega)]
          rw [show a - a / b * b = a % b by omega, show c - c / d * d = c % d by omega]
        rw [hst]
        dsimp only
        have r := ih M b (a % b) d (c % d) (-sg) (st + 1) ((show b = 0 ∨ es m b (a % b) from he).resolve_left (by omega)) hb (by omega) hd (by omega) (by omega) (by omega) (by omega) (by omega) (by omega) (by omega)
        rw [r, cmp_turn q, Int.neg_mul, Int.mul_neg]
      · have hst : m_Ratio_compare_L6b h a b c d sg st = some (.inr (sg * cmp4 a b c d)) := by
          unfold m_Ratio_compare_L6b m_Ratio_compare_J47
          simp only [lCmp_0, lCmp_le]
          simp (disch := omega) only [if_neg, bv_some, lDiv_e]
          rw [cmp_ne (by omega) (by omega) q]
          split
          · simp only [b1_some]
            congr 2
            omega
          · rw [w32_id (by omega) (by omega)]
            simp only [b1_some]
            congr 2
            omega
        rw [hst]
theorem X_compare {a b c d : Int} (h : HP) (ha : 0 ≤ a ∧ a < 9223372036854775808) (hb : 0 < b ∧ b < 9223372036854775808) (hc : 0 ≤ c ∧ c < 9223372036854775808) (hd : 0 < d ∧ d < 9223372036854775808) : m_Ratio_compare a b c d h = some (cmp4 a b c d) := by
  unfold m_Ratio_compare m_Ratio_compare_L6
  rw [X_cmp_loop h 128 FUEL a b c d 1 0 (es_128 ha (by omega)) ha (by omega) hc (by omega) (by omega) (by omega) (Or.inl rfl) (by omega) (by omega) (by unfold FUEL; omega), Int.one_mul]
theorem M_cmp_loop (h : HP) : ∀ (m N : Nat) (a b c d sg : Int), es m a b → 0 ≤ a ∧ a < 9223372036854775808 → 0 < b ∧ b < 9223372036854775808 → 0 ≤ c ∧ c < 9223372036854775808 → 0 < d ∧ d < 9223372036854775808 → (sg = 1 ∨ sg = -1) → m < N → loopO (fun s : Int × Int × Int × Int × Int => m_Md_compares_L17b h s.1 s.2.1 s.2.2.1 s.2.2.2.1 s.2.2.2.2) N (sg, a, b, c, d) = some (sg * cmp4 a b c d) := by
  intro m
  induction m with
  | zero =>
    intro N a b c d sg he ha hb hc hd hs hN
    unfold es at he
    omega
  | succ m ih =>
    intro N a b c d sg he ha hb hc hd hs hN
    obtain ⟨M, rfl⟩ : ∃ M, N = M + 1 := ⟨N - 1, by omega⟩
    unfold loopO
    dsimp only
    have h2 := rem_bd (x := a) (show 0 < b by omega)
    have h3 := rem_bd (x := c) (show 0 < d by omega)
    by_cases q : a / b = c / d
    · by_cases z : a % b = 0 ∨ c % d = 0
      · have r : (if a % b = c % d then some (0 : Int) else if a % b = 0 then some (w32 (-sg)) else some sg) = some (sg * cmp4 a b c d) := by
          unfold cmp4
          rw [cmp_eq q]
          by_cases z1 : a % b = 0
          · by_cases z2 : c % d = 0
            · rw [if_pos (by omega), z1, z2]
              simp [sgn_0]
            · rw [if_neg (by omega), if_pos z1, z1]
              have := Int.mul_pos (show 0 < c % d by omega) hb.1
              rw [sgn_lt (by omega), w32_id (by omega) (by omega)]
              congr 1
              omega
          · have z2 : c % d = 0 := z.resolve_left z1
            rw [if_neg (by omega), if_neg z1, z2]
            have := Int.mul_pos (show 0 < a % b by omega) hd.1
            rw [sgn_gt (by omega)]
            congr 1
            omega
        have hst : m_Md_compares_L17b h sg a b c d = some (.inr (sg * cmp4 a b c d)) := by
          unfold m_Md_compares_L17b m_Md_compares_J84
          simp only [lCmp_0]
          simp (disch := omega) only [if_neg, bv_some, lDiv_e, lRem_e]
          rw [if_pos q]
          by_cases z1 : a % b = 0
          · rw [if_pos z1, r]
            rfl
          · have z2 := z.resolve_left z1
            rw [if_neg (show ¬ a % b = c % d by omega), if_neg z1] at r
            simp (disch := omega) only [if_pos, if_neg, b1_some]
            exact congrArg (fun v => some (Sum.inr v)) (Option.some.inj r)
        rw [hst]
      · have hst : m_Md_compares_L17b h sg a b c d = some (.inl (-sg, b, a % b, d, c % d)) := by
          unfold m_Md_compares_L17b
          simp only [lCmp_0]
          simp (disch := omega) only [if_neg, bv_some, lDiv_e, lRem_e, w32_id]
          rw [if_pos q]
        rw [hst]
        dsimp only
        have r := ih M b (a % b) d (c % d) (-sg) ((show b = 0 ∨ es m b (a % b) from he).resolve_left (by omega)) (by omega) (by omega) (by omega) (by omega) (by omega) (by omega)
        rw [r, cmp_turn q, Int.neg_mul, Int.mul_neg]
    · have hst : m_Md_compares_L17b h sg a b c d = some (.inr (sg * cmp4 a b c d)) := by
        unfold m_Md_compares_L17b m_Md_compares_J53
        simp only [lCmp_0, lCmp_le]
        simp (disch := omega) only [if_neg, bv_some, lDiv_e, lRem_e]
        rw [cmp_ne (by omega) (by omega) q]
        split
        · simp only [b1_some]
          congr 2
          omega
        · rw [w32_id (by omega) (by omega)]
          simp only [b1_some]
          congr 2
          omega
      rw [hst]
theorem M_compares {a b c d : Int} (h : HP) (ha : 0 ≤ a ∧ a < 9223372036854775808) (hb : 0 < b ∧ b < 9223372036854775808) (hc : 0 ≤ c ∧ c < 9223372036854775808) (hd : 0 < d ∧ d < 9223372036854775808) : m_Md_compares a b c d h = some (cmp4 a b c d) := by
  unfold m_Md_compares m_Md_compares_L17
  rw [M_cmp_loop h 128 FUEL a b c d 1 (es_128 ha (by omega)) ha hb hc hd (Or.inl rfl) (by unfold FUEL; omega), Int.one_mul]
theorem sgn_mul {x g : Int} (hg : 0 < g) : sgn (x * g) = sgn x := by
  rcases Int.lt_trichotomy x 0 with h | h | h
  · rw [sgn_lt h, sgn_lt (Int.mul_neg_of_neg_of_pos h hg)]
  · rw [h, Int.zero_mul]
  · rw [sgn_gt h, sgn_gt (Int.mul_pos h hg)]
/-- lowest terms change nothing -/
theorem cmp_rd1 {a b c d : Int} (hb : 0 < b) : cmp4 (rdA a b) (rdB a b) c d = cmp4 a b c d := by
  have e := rd_e (a := a) hb
  have hg := (gcd_pos (a := a) hb).1
  unfold cmp4
  rw [← sgn_mul hg]
  congr 1
  rw [Int.sub_mul]
  have e1 : rdA a b * d * (Int.gcd a b : Int) = a * d := by rw [Int.mul_right_comm, e.1]
  have e2 : c * rdB a b * (Int.gcd a b : Int) = c * b := by rw [Int.mul_assoc, e.2]
  rw [e1, e2]
theorem cmp_sw (a b c d : Int) : cmp4 c d a b = - cmp4 a b c d := by
  unfold cmp4
  rw [← sgn_neg]
  congr 1
  omega
theorem cmp_rd2 {a b c d : Int} (hd : 0 < d) : cmp4 a b (rdA c d) (rdB c d) = cmp4 a b c d := by
  rw [cmp_sw, cmp_rd1 hd, ← cmp_sw]
