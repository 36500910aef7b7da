/-! PURE: draws -/
theorem iUshr9 (x : Int) : ∃ n : Nat, iUshr x 9 = n ∧ n < 8388608 := by
  have e : iUshr x 9 = ((BitVec.ofInt 32 x) >>> (9 : Nat)).toInt := rfl
  have h := (BitVec.ofInt 32 x).isLt
  have e2 : ((BitVec.ofInt 32 x) >>> (9 : Nat)).toNat = (BitVec.ofInt 32 x).toNat / 512 := by
    rw [BitVec.toNat_ushiftRight, Nat.shiftRight_eq_div_pow]
  refine ⟨(BitVec.ofInt 32 x).toNat / 512, ?_, by omega⟩
  rw [e, BitVec.toInt_eq_toNat_of_lt (by rw [e2]; omega), e2]
theorem iRem_e {x y : Int} (hx : 0 ≤ x ∧ x < 2147483648) (hy : 0 < y ∧ y < 2147483648) : iRem x y = x % y := by
  have ey : (Int32.ofInt y).toInt = y := toI32 ⟨by omega, by omega⟩
  have ex : (Int32.ofInt x).toInt = x := toI32 ⟨by omega, by omega⟩
  have hn : Int32.ofInt y ≠ -1 := fun e => by
    have h := congrArg Int32.toInt e
    rw [ey] at h
    have h1 : (-1 : Int32).toInt = -1 := by decide
    omega
  have hb := div_bd hx.1 hy.1
  have e : Int32.ofInt x / Int32.ofInt y = Int32.ofInt (x / y) := by
    apply Int32.toInt_inj.mp
    rw [Int32.toInt_div_of_ne_right _ _ hn, ex, ey, Int.tdiv_eq_ediv_of_nonneg hx.1, toI32 ⟨by omega, by omega⟩]
  have e2 := Int.mul_ediv_add_emod x y
  have e3 : x / y * y = y * (x / y) := Int.mul_comm _ _
  have h2 := rem_bd (x := x) hy.1
  unfold iRem
  rw [e, mul32, sub32, toI32 ⟨by omega, by omega⟩]
  omega
def nxS (q : Int) : Int := w32 (w32 (q * 1103515245) + 12345)
def drw (q k : Int) : Int := iRem (iUshr (nxS q) 9) k
theorem drw_bd {q k : Int} (hk : 0 < k ∧ k < 100) : 0 ≤ drw q k ∧ drw q k < k := by
  obtain ⟨n, e, hn⟩ := iUshr9 (nxS q)
  unfold drw
  rw [e, iRem_e (by omega) (by omega)]
  exact rem_bd hk.1
/-- the answer by a draw -/
def fdA (f : Int → Int) (d : Int) : Int := if d < Sm f 1 then 0 else if d < Sm f 2 then 1 else if d < Sm f 3 then 2 else 3
theorem fdA_p {f : Int → Int} {d : Int} (hf : ∀ i, 0 ≤ i → i < 4 → 1 ≤ f i) (h0 : 0 ≤ d) (h1 : d < Sm f 4) : (0 ≤ fdA f d ∧ fdA f d < 4) ∧ d < Sm f (fdA f d + 1) ∧ Sm f (fdA f d) ≤ d ∧ ∀ c, 0 ≤ c → c < fdA f d → Sm f (c + 1) ≤ d := by
  have e1 : Sm f 1 = Sm f 0 + f 0 := Sm_s f (n := 0) (by omega)
  have e2 : Sm f 2 = Sm f 1 + f 1 := Sm_s f (n := 1) (by omega)
  have e3 : Sm f 3 = Sm f 2 + f 2 := Sm_s f (n := 2) (by omega)
  have e4 : Sm f 4 = Sm f 3 + f 3 := Sm_s f (n := 3) (by omega)
  have e0 : Sm f 0 = 0 := rfl
  have f0 := hf 0 (by omega) (by omega)
  have f1 := hf 1 (by omega) (by omega)
  have f2 := hf 2 (by omega) (by omega)
  unfold fdA
  by_cases c1 : d < Sm f 1
  · rw [if_pos c1]
    exact ⟨by omega, c1, by omega, fun c a b => by omega⟩
  · rw [if_neg c1]
    by_cases c2 : d < Sm f 2
    · rw [if_pos c2]
      refine ⟨by omega, c2, by omega, fun c a b => ?_⟩
      rw [show c = 0 by omega]
      show Sm f 1 ≤ d
      omega
    · rw [if_neg c2]
      by_cases c3 : d < Sm f 3
      · rw [if_pos c3]
        refine ⟨by omega, c3, by omega, fun c a b => ?_⟩
        have : c = 0 ∨ c = 1 := by omega
        rcases this with rfl | rfl
        · show Sm f 1 ≤ d
          omega
        · show Sm f 2 ≤ d
          omega
      · rw [if_neg c3]
        refine ⟨by omega, h1, by omega, fun c a b => ?_⟩
        have : c = 0 ∨ c = 1 ∨ c = 2 := by omega
        rcases this with rfl | rfl | rfl
        · show Sm f 1 ≤ d
          omega
        · show Sm f 2 ≤ d
          omega
        · show Sm f 3 ≤ d
          omega
/-- the answer anew to item i, behind seed q -/
def aw (V : Vw) (i x y q : Int) : Int := fdA (sh V i x y) (drw q (Sm (sh V i x y) 4))
def dlS (V : Vw) (x y i : Int) (st : Int × Int) : Int × Int := if 0 ≤ V 4 x i ∧ 0 ≤ V 4 y i then (st.1 + (if aw V i x y st.2 = aw V i x y (nxS st.2) then wor V i (aw V i x y st.2) else 0), nxS (nxS st.2)) else st
def dlN (V : Vw) (x y q : Int) : Nat → Int × Int
  | 0 => (0, q)
  | k + 1 => dlS V x y k (dlN V x y q k)
def dl (V : Vw) (x y q : Int) : Int := (dlN V x y q (V 0 0 0).toNat).1
theorem dlN_s (V : Vw) (x y q : Int) {k : Int} (hk : 0 ≤ k) : dlN V x y q (k + 1).toNat = dlS V x y k (dlN V x y q k.toNat) := by
  rw [show (k + 1).toNat = k.toNat + 1 by omega]
  show dlS V x y (k.toNat : Int) (dlN V x y q k.toNat) = _
  rw [show ((k.toNat : Nat) : Int) = k by omega]
theorem dlN_bd {V : Vw} (K : okVw V) (x y q : Int) (k : Nat) : 0 ≤ (dlN V x y q k).1 ∧ (dlN V x y q k).1 ≤ 4 * k := by
  induction k with
  | zero => exact ⟨Int.le_refl _, Int.le_refl _⟩
  | succ k ih =>
    unfold dlN dlS
    have hw := wor_bd K k (aw V k x y (dlN V x y q k).2)
    split
    · (try dsimp only)
      split <;> omega
    · omega
section Dr
variable {h : HP} {V : Vw} {i x y : Int}
theorem sh_pos (K : okVw V) (hi : 0 ≤ i ∧ i < 8) : ∀ a, 0 ≤ a → a < 4 → 1 ≤ sh V i x y a := fun a a0 a1 => (sh_bd K hi ⟨a0, a1⟩).1
theorem Sh_pre (K : okVw V) (hi : 0 ≤ i ∧ i < 8) {k : Int} (hk : 0 ≤ k ∧ k ≤ 4) : 0 ≤ Sm (sh V i x y) k ∧ Sm (sh V i x y) k ≤ 36 := by
  have := Sm_bd (f := sh V i x y) 0 9 hk.1 (fun a a0 a1 => by have := sh_bd K (x := x) (y := y) hi (a := a) ⟨a0, by omega⟩; omega)
  omega
/-- the class's answer anew: shares are taken -/
theorem X_anAnswer (K : okVw V) {d o q : Int} (hd : d ≠ o ∧ d ≠ o + 1) (hi : 0 ≤ i ∧ i < 8) (hq : h d 0 = q) (h1 : h o 1 = Sm (sh V i x y) 4) (hs : ∀ a, 0 ≤ a → a < 4 → h (o + 1) a = sh V i x y a) : m_Draws_anAnswer d o h = some (aw V i x y q, upd2 h d 0 (nxS q)) := by
  have hS := sh_sum K (x := x) (y := y) hi
  have hdr := drw_bd (q := q) (k := Sm (sh V i x y) 4) (by omega)
  have hp := fdA_p (f := sh V i x y) (d := drw q (Sm (sh V i x y) 4)) (sh_pos K hi) hdr.1 hdr.2
  unfold m_Draws_anAnswer m_Draws_below
  rw [h1, hq]
  simp only [bv_some]
  rw [if_neg (by omega), if_neg (by omega), upd2_eq]
  simp only [b2_some]
  have e1 : iRem (iUshr (w32 (w32 (q * 1103515245) + 12345)) 9) (Sm (sh V i x y) 4) = drw q (Sm (sh V i x y) 4) := rfl
  have e2 : w32 (w32 (q * 1103515245) + 12345) = nxS q := rfl
  rw [e1, e2]
  unfold m_Draws_anAnswer_L14
  have sv : ∀ a, 0 ≤ a → a < 4 → upd2 h d 0 (nxS q) (o + 1) a = sh V i x y a := fun a a0 a1 => by
    rw [upd2_np _ (by omega)]
    exact hs a a0 a1
  unfold aw
  generalize drw q (Sm (sh V i x y) 4) = dd at hp hdr ⊢
  refine loop_seq (fun a => (Sm (sh V i x y) a, a)) 0 (fdA (sh V i x y) dd) (by omega) (by omega) rfl (fun a a0 a1 => ?_) ?_
  · have b1' := Sh_pre (x := x) (y := y) K hi (k := a + 1) (by omega)
    have es : Sm (sh V i x y) (a + 1) = Sm (sh V i x y) a + sh V i x y a := Sm_s _ a0
    have := hp.2.2.2 a a0 a1
    (try dsimp only)
    unfold m_Draws_anAnswer_L14b
    rw [if_neg (by omega), if_pos (by omega), sv a a0 (by omega), ← es, w32_id (by omega) (by omega), w32_id (by omega) (by omega)]
    simp only [bv_some]
    rw [if_pos (by omega)]
  · have b1' := Sh_pre (x := x) (y := y) K hi (k := fdA (sh V i x y) dd + 1) (by omega)
    have es : Sm (sh V i x y) (fdA (sh V i x y) dd + 1) = Sm (sh V i x y) (fdA (sh V i x y) dd) + sh V i x y (fdA (sh V i x y) dd) := Sm_s _ (by omega)
    have := hp.2.1
    (try dsimp only)
    unfold m_Draws_anAnswer_L14b
    rw [if_neg (by omega), if_pos (by omega), sv _ (by omega) (by omega), ← es, w32_id (by omega) (by omega)]
    simp only [bv_some]
    rw [if_neg (by omega)]
theorem M_answersAnew (M : isM h V) (K : okVw V) {q : Int} (hi : 0 ≤ i ∧ i < 8) (hq : h 126 39 = q) : m_Md_answersAnew 126 i x y h = some (aw V i x y q, upd2 h 126 39 (nxS q)) := by
  have hS := sh_sum K (x := x) (y := y) hi
  have hdr := drw_bd (q := q) (k := Sm (sh V i x y) 4) (by omega)
  have hp := fdA_p (f := sh V i x y) (d := drw q (Sm (sh V i x y) 4)) (sh_pos K hi) hdr.1 hdr.2
  have eS : Sm (fun a => if a = -1 then 0 else sh V i x y a) 4 = Sm (sh V i x y) 4 := Sm_congr (fun a a0 a1 => by rw [if_neg (by omega)])
  have M2 : isM (upd2 h 126 39 (nxS q)) V := isM_sm ⟨fun j hj => upd2_nj _ (by omega), fun p j a b => upd2_np _ (by omega)⟩ M
  unfold m_Md_answersAnew m_Md_draw
  rw [M_sumBut M K hi, eS]
  simp only [b1_some, bv_some]
  rw [if_neg (by omega), upd2_eq, hq]
  simp only [b2_some]
  have e1 : iRem (iUshr (w32 (w32 (q * 1103515245) + 12345)) 9) (Sm (sh V i x y) 4) = drw q (Sm (sh V i x y) 4) := rfl
  have e2 : w32 (w32 (q * 1103515245) + 12345) = nxS q := rfl
  rw [e1, e2]
  unfold m_Md_answersAnew_L17
  unfold aw
  generalize drw q (Sm (sh V i x y) 4) = dd at hp hdr ⊢
  refine loop_seq (fun a => (dd - Sm (sh V i x y) a, a)) 0 (fdA (sh V i x y) dd) (by omega) (by omega) (by rw [Sm_0, Int.sub_zero]) (fun a a0 a1 => ?_) ?_
  · have b1' := Sh_pre (x := x) (y := y) K hi (k := a + 1) (by omega)
    have es : Sm (sh V i x y) (a + 1) = Sm (sh V i x y) a + sh V i x y a := Sm_s _ a0
    have := hp.2.2.2 a a0 a1
    have b2' := Sh_pre (x := x) (y := y) K hi (k := a) (by omega)
    (try dsimp only)
    unfold m_Md_answersAnew_L17b
    rw [M_shareOf M2 K hi ⟨a0, by omega⟩]
    simp only [b1_some, bv_some]
    rw [if_neg (by omega), w32_id (by omega) (by omega), w32_id (by omega) (by omega), es, Int.sub_sub]
  · have b1' := Sh_pre (x := x) (y := y) K hi (k := fdA (sh V i x y) dd + 1) (by omega)
    have es : Sm (sh V i x y) (fdA (sh V i x y) dd + 1) = Sm (sh V i x y) (fdA (sh V i x y) dd) + sh V i x y (fdA (sh V i x y) dd) := Sm_s _ (by omega)
    have := hp.2.1
    (try dsimp only)
    unfold m_Md_answersAnew_L17b
    rw [M_shareOf M2 K hi (by omega)]
    simp only [b1_some]
    rw [if_pos (by omega)]
theorem X_drawn (X : isX 1 h V) (K : okVw V) (hx : 0 ≤ x ∧ x < 8) (hy : 0 ≤ y ∧ y < 8) (q : Int) : ∃ h1, m_Draws_likeness 113 1 94 q x y h = some (dl V x y q, h1) ∧ ∀ p j, ¬ (94 ≤ p ∧ p ≤ 95) → p ≠ 113 → h1 p j = h p j := by
  have hn := K.n
  unfold m_Draws_likeness m_Draws_likeness_L11
  simp only [bv_some]
  suffices key : ∃ r, loopO (fun s : Int × Int × HP => m_Draws_likeness_L11b 113 1 94 x y s.1 s.2.1 s.2.2) FUEL (0, 0, upd2 h 113 0 q) = some r ∧ (r.1 = dl V x y q ∧ ∀ p j, ¬ (94 ≤ p ∧ p ≤ 95) → p ≠ 113 → r.2 p j = h p j) by
    obtain ⟨⟨a, h1⟩, e, e2, e3⟩ := key
    (try dsimp only at e2 e3)
    rw [e, e2]
    exact ⟨h1, rfl, e3⟩
  refine loop_ex (fun k (t : Int × Int × HP) => t.1 = (dlN V x y q k.toNat).1 ∧ t.2.1 = k ∧ t.2.2 113 0 = (dlN V x y q k.toNat).2 ∧ ∀ p j, ¬ (94 ≤ p ∧ p ≤ 95) → p ≠ 113 → t.2.2 p j = h p j) 0 (V 0 0 0) _ (by omega) (by omega) ⟨rfl, rfl, show upd2 h 113 0 q 113 0 = q from upd2_eq _ _ _ _, fun p j a b => upd2_np _ b⟩ (fun k t k0 k1 hS => ?_) (fun t hS => ?_)
  · obtain ⟨f, k', g⟩ := t
    obtain ⟨z1, z2, z3, z4⟩ := hS
    (try dsimp only at z1 z2 z3 z4 ⊢)
    subst z2
    have Xg : isX 1 g V := isX_cg (fun p j a b => z4 p j (by omega) (by omega)) X
    have hb := dlN_bd K x y q k'.toNat
    unfold m_Draws_likeness_L11b
    rw [Xg.n, if_neg (by omega), X_bothGave Xg (by omega) hx hy, dlN_s V x y q k0, w32_id (x := k' + 1) (by omega) (by omega)]
    simp only [b1_some, if10]
    unfold dlS
    by_cases c : 0 ≤ V 4 x k' ∧ 0 ≤ V 4 y k'
    · rw [if_pos c, if_pos c, X_takeShares Xg K (by omega) (by omega)]
      simp only [b1_some]
      have t1 : Ts V 94 k' x y 4 g 113 0 = (dlN V x y q k'.toNat).2 := by
        unfold Ts
        rw [if_neg (by omega), if_neg (by omega)]
        exact z3
      have tf : ∀ p j, ¬ (94 ≤ p ∧ p ≤ 95) → Ts V 94 k' x y 4 g p j = g p j := fun p j a => by
        unfold Ts
        rw [if_neg (by omega), if_neg (by omega)]
      have e94 := Ts_sum V 94 k' x y g
      have e95 : ∀ a, 0 ≤ a → a < 4 → Ts V 94 k' x y 4 g (94 + 1) a = sh V k' x y a := fun a a0 a1 => Ts_sh V 94 k' x y g ⟨a0, a1⟩
      rw [X_anAnswer (i := k') (x := x) (y := y) K (d := 113) (o := 94) (by omega) (by omega) t1 e94 e95]
      simp only [b2_some]
      rw [X_anAnswer (i := k') (x := x) (y := y) K (d := 113) (o := 94) (by omega) (by omega) (upd2_eq _ _ _ _) (by rw [upd2_np _ (by omega)]; exact e94) (fun a a0 a1 => by rw [upd2_np _ (by omega)]; exact e95 a a0 a1)]
      simp only [b2_some]
      have fr : ∀ p j, ¬ (94 ≤ p ∧ p ≤ 95) → p ≠ 113 → upd2 (upd2 (Ts V 94 k' x y 4 g) 113 0 (nxS (dlN V x y q k'.toNat).2)) 113 0 (nxS (nxS (dlN V x y q k'.toNat).2)) p j = h p j := fun p j a b => by
        rw [upd2_np _ b, upd2_np _ b, tf p j a]
        exact z4 p j a b
      have X3 : isX 1 (upd2 (upd2 (Ts V 94 k' x y 4 g) 113 0 (nxS (dlN V x y q k'.toNat).2)) 113 0 (nxS (nxS (dlN V x y q k'.toNat).2))) V := isX_cg (fun p j a b => fr p j (by omega) (by omega)) X
      have hw := wor_bd K k' (aw V k' x y (dlN V x y q k'.toNat).2)
      have ew : (if aw V k' x y (dlN V x y q k'.toNat).2 = V 1 k' 0 then V 7 4 0 else V 7 5 0) = wor V k' (aw V k' x y (dlN V x y q k'.toNat).2) := rfl
      by_cases c2 : aw V k' x y (dlN V x y q k'.toNat).2 = aw V k' x y (nxS (dlN V x y q k'.toNat).2)
      · rw [if_pos c2, if_pos c2, X_worth X3 (by omega), ew]
        simp only [b1_some, bv_some]
        rw [z1, w32_id (by omega) (by omega)]
        exact ⟨_, rfl, rfl, rfl, by (try dsimp only); exact upd2_eq _ _ _ _, fr⟩
      · rw [if_neg c2, if_neg c2, z1, Int.add_zero]
        exact ⟨_, rfl, rfl, rfl, by (try dsimp only); exact upd2_eq _ _ _ _, fr⟩
    · rw [if_neg c, if_neg c]
      exact ⟨_, rfl, z1, rfl, z3, z4⟩
  · obtain ⟨f, k', g⟩ := t
    obtain ⟨z1, z2, z3, z4⟩ := hS
    (try dsimp only at z1 z2 z3 z4 ⊢)
    have Xg : isX 1 g V := isX_cg (fun p j a b => z4 p j (by omega) (by omega)) X
    unfold m_Draws_likeness_L11b
    rw [Xg.n, z2, if_pos (by omega)]
    exact ⟨_, rfl, z1, z4⟩
theorem M_drawn (M : isM h V) (K : okVw V) (hx : 0 ≤ x ∧ x < V 0 1 0) (hy : 0 ≤ y ∧ y < V 0 1 0) (q : Int) : ∃ h1, m_Md_drawnBy 126 q x y h = some (dl V x y q, h1) ∧ ∀ p j, ¬ (p = 126 ∧ j = 39) → h1 p j = h p j := by
  have hn := K.n
  have hm := K.m
  unfold m_Md_drawnBy m_Md_drawnBy_L11
  simp only [bv_some]
  suffices key : ∃ r, loopO (fun s : Int × Int × HP => m_Md_drawnBy_L11b 126 x y s.1 s.2.1 s.2.2) FUEL (0, 0, upd2 h 126 39 q) = some r ∧ (r.1 = dl V x y q ∧ ∀ p j, ¬ (p = 126 ∧ j = 39) → r.2 p j = h p j) by
    obtain ⟨⟨a, h1⟩, e, e2, e3⟩ := key
    (try dsimp only at e2 e3)
    rw [e, e2]
    exact ⟨h1, rfl, e3⟩
  have un : ∀ (g : HP) v p j, ¬ (p = 126 ∧ j = 39) → upd2 g 126 39 v p j = g p j := fun g v p j n => by
    unfold upd2
    rw [if_neg n]
  have Mg : ∀ g, (∀ p j, ¬ (p = 126 ∧ j = 39) → g p j = h p j) → isM g V := fun g f => isM_sm ⟨fun j hj => f _ _ (by omega), fun p j a b => f _ _ (by omega)⟩ M
  refine loop_ex (fun k (t : Int × Int × HP) => t.1 = (dlN V x y q k.toNat).1 ∧ t.2.1 = k ∧ t.2.2 126 39 = (dlN V x y q k.toNat).2 ∧ ∀ p j, ¬ (p = 126 ∧ j = 39) → t.2.2 p j = h p j) 0 (V 0 0 0) _ (by omega) (by omega) ⟨rfl, rfl, show upd2 h 126 39 q 126 39 = q from upd2_eq _ _ _ _, fun p j a => un _ _ _ _ a⟩ (fun k t k0 k1 hS => ?_) (fun t hS => ?_)
  · obtain ⟨f, k', g⟩ := t
    obtain ⟨z1, z2, z3, z4⟩ := hS
    (try dsimp only at z1 z2 z3 z4 ⊢)
    subst z2
    have M1 := Mg g z4
    have hb := dlN_bd K x y q k'.toNat
    have gx := M1.gv hx.1 hx.2 k0 (show k' < 8 by omega)
    have gy := M1.gv hy.1 hy.2 k0 (show k' < 8 by omega)
    unfold m_Md_drawnBy_L11b
    simp only [Int.reduceAdd]
    rw [M1.n, if_neg (by omega), dlN_s V x y q k0, w32_id (x := k' + 1) (by omega) (by omega), w32_id (x := 8 * x) (by omega) (by omega), w32_id (x := 8 * y) (by omega) (by omega), w32_id (x := 8 * x + k') (by omega) (by omega), w32_id (x := 8 * y + k') (by omega) (by omega), if_pos (by omega), if_pos (show 0 ≤ 8 * y + k' ∧ 8 * y + k' < 64 by omega)]
    unfold dlS
    by_cases c : 0 ≤ V 4 x k' ∧ 0 ≤ V 4 y k'
    · rw [if_pos c, if_neg (by rw [gx]; omega), if_neg (by rw [gy]; omega), M_answersAnew (i := k') (x := x) (y := y) M1 K (by omega) z3]
      simp only [b2_some]
      have M2 := Mg (upd2 g 126 39 (nxS (dlN V x y q k'.toNat).2)) (fun p j n => by rw [un _ _ _ _ n]; exact z4 p j n)
      rw [M_answersAnew (i := k') (x := x) (y := y) M2 K (by omega) (upd2_eq _ _ _ _)]
      simp only [b2_some]
      have fr : ∀ p j, ¬ (p = 126 ∧ j = 39) → upd2 (upd2 g 126 39 (nxS (dlN V x y q k'.toNat).2)) 126 39 (nxS (nxS (dlN V x y q k'.toNat).2)) p j = h p j := fun p j n => by
        rw [un _ _ _ _ n, un _ _ _ _ n]
        exact z4 p j n
      have M3 := Mg _ fr
      have hw := wor_bd K k' (aw V k' x y (dlN V x y q k'.toNat).2)
      have ew : (if aw V k' x y (dlN V x y q k'.toNat).2 = V 1 k' 0 then V 7 4 0 else V 7 5 0) = wor V k' (aw V k' x y (dlN V x y q k'.toNat).2) := rfl
      by_cases c2 : aw V k' x y (dlN V x y q k'.toNat).2 = aw V k' x y (nxS (dlN V x y q k'.toNat).2)
      · rw [if_pos c2, if_pos c2, M_worth M3 (by omega), ew]
        simp only [b1_some, bv_some]
        rw [z1, w32_id (by omega) (by omega)]
        exact ⟨_, rfl, rfl, rfl, by (try dsimp only); exact upd2_eq _ _ _ _, fr⟩
      · rw [if_neg c2, if_neg c2, z1, w32_id (by omega) (by omega)]
        exact ⟨_, rfl, rfl, rfl, by (try dsimp only); exact upd2_eq _ _ _ _, fr⟩
    · rw [if_neg c]
      refine ⟨(f, k' + 1, g), ?_, z1, rfl, z3, z4⟩
      by_cases c3 : V 4 x k' < 0
      · rw [if_pos (by rw [gx]; exact c3)]
      · rw [if_neg (by rw [gx]; exact c3), if_pos (by rw [gy]; omega)]
  · obtain ⟨f, k', g⟩ := t
    obtain ⟨z1, z2, z3, z4⟩ := hS
    (try dsimp only at z1 z2 z3 z4 ⊢)
    unfold m_Md_drawnBy_L11b
    rw [(Mg g z4).n, z2, if_pos (by omega)]
    exact ⟨_, rfl, z1, z4⟩
end Dr
theorem A_drawn (q x y : Int) : AA (m_Cb_drawn 0 q x y) (m_Md_drawn 126 q x y) := by
  rintro h ⟨V, R⟩
  obtain ⟨X, M, K, I, T, P⟩ := id R
  have hm := K.m
  unfold m_Cb_drawn m_Md_drawn
  simp only [Int.zero_add, X_hasTwo X, b1_some, if10]
  by_cases c : two V x y
  · obtain ⟨h1, e1, f1⟩ := X_drawn (x := x) (y := y) X K (by omega) (by omega) q
    have F1 : frC h h1 := fun p j n => by
      unfold scr at n
      exact f1 p j (by omega) (by omega)
    have R1 : Rl h1 V := Rl_fr F1 R
    obtain ⟨h2, e2, f2⟩ := M_drawn (x := x) (y := y) R1.2.1 K (by omega) (by omega) q
    have F2 : frC h1 h2 := fun p j n => by
      unfold scr at n
      exact f2 p j (by omega)
    refine ⟨dl V x y q, h1, h2, ?_, ?_, V, Rl_fr F2 R1⟩
    · rw [if_pos c, e1]
      rfl
    · simp only [M_isTwo R1.2.1 K, b1_some, if10]
      rw [if_pos c, e2]
      rfl
  · refine ⟨-1, h, h, ?_, ?_, V, R⟩
    · rw [if_neg c]
    · simp only [M_isTwo M K, b1_some, if10]
      rw [if_neg c]
/-- in how many of seeds 0 .. n behind s it is k or more -/
def chN (V : Vw) (s x y k n : Int) : Int := Sm (fun i => if dl V x y (w32 (s + i)) < k then 0 else 1) n
theorem A_chance (s x y k p : Int) : AA (m_Cb_chance 0 s x y k p) (m_Md_chance 126 s x y k p) := by
  rintro h ⟨V, R⟩
  obtain ⟨X, M, K, I, T, P⟩ := id R
  have hm := K.m
  have hb : ∀ n, 0 ≤ n → 0 ≤ chN V s x y k n ∧ chN V s x y k n ≤ n := fun n hn => by
    have := Sm_bd (f := fun i => if dl V x y (w32 (s + i)) < k then (0 : Int) else 1) 0 1 hn (fun i _ _ => by (try dsimp only); split <;> omega)
    unfold chN
    omega
  have es : ∀ n, 0 ≤ n → chN V s x y k (n + 1) = chN V s x y k n + if dl V x y (w32 (s + n)) < k then 0 else 1 := fun n hn => Sm_s _ hn
  unfold m_Cb_chance m_Md_chance
  simp only [Int.zero_add, X_hasTwo X, P_isPart, P_in, b1_some, if10]
  by_cases c : two V x y ∧ 0 ≤ k ∧ (0 ≤ p ∧ p ≤ 1)
  · have key : ∃ r, m_Cb_chance_L35 0 s x y k p (0, 0, h) = some r ∧ (r.1 = (if p = 0 then rdA (chN V s x y k 6) 6 else rdB (chN V s x y k 6) 6) ∧ frC h r.2) := by
      unfold m_Cb_chance_L35
      refine loop_ex (fun n (t : Int × Int × HP) => t.1 = chN V s x y k n ∧ t.2.1 = n ∧ frC h t.2.2) 0 6 _ (by omega) (by omega) ⟨rfl, rfl, frC.rf h⟩ (fun n t n0 n1 hS => ?_) (fun t hS => ?_)
      · obtain ⟨f, n', g⟩ := t
        obtain ⟨z1, z2, z3⟩ := hS
        (try dsimp only at z1 z2 z3 ⊢)
        subst z2
        have Xg : isX 1 g V := isX_fr z3 (Or.inl rfl) X
        have hbn := hb n' n0
        obtain ⟨g1, e1, f1⟩ := X_drawn (x := x) (y := y) Xg K (by omega) (by omega) (w32 (s + n'))
        have F1 : frC h g1 := z3.tr (fun p j n => by
          unfold scr at n
          exact f1 p j (by omega) (by omega))
        unfold m_Cb_chance_L35b
        simp only [Int.zero_add]
        rw [if_neg (by omega), e1, w32_id (x := n' + 1) (by omega) (by omega), es n' n0]
        simp only [b2_some]
        by_cases q : dl V x y (w32 (s + n')) < k
        · rw [if_pos q, if_pos q, Int.add_zero]
          exact ⟨_, rfl, z1, rfl, F1⟩
        · rw [if_neg q, if_neg q, z1, w32_id (by omega) (by omega)]
          exact ⟨_, rfl, rfl, rfl, F1⟩
      · obtain ⟨f, n', g⟩ := t
        obtain ⟨z1, z2, z3⟩ := hS
        (try dsimp only at z1 z2 z3 ⊢)
        subst z2
        have hbn := hb 6 (by omega)
        unfold m_Cb_chance_L35b m_Cb_chance_J77
        simp only [Int.zero_add]
        rw [if_pos (by omega), z1, X_put 97 g (a := chN V s x y k 6) (b := 6) (by omega) (by omega)]
        simp only [b1_some]
        rw [P_half 97 p (rdA (chN V s x y k 6) 6) (rdB (chN V s x y k 6) 6) _ (by rw [upd2_nj _ (by omega), upd2_eq]) (upd2_eq _ _ _ _)]
        refine ⟨_, rfl, rfl, fun p j n => ?_⟩
        unfold scr at n
        (try dsimp only)
        rw [upd2_np _ (by omega), upd2_np _ (by omega)]
        exact z3 p j (by unfold scr; omega)
    obtain ⟨⟨a, h1⟩, e1, w1, f1⟩ := key
    (try dsimp only at w1 f1)
    have R1 : Rl h1 V := Rl_fr f1 R
    have key : ∃ r, m_Md_chance_L35 126 s x y k p (0, 0, h1) = some r ∧ (r.1 = (if p = 0 then rdA (chN V s x y k 6) 6 else rdB (chN V s x y k 6) 6) ∧ frC h1 r.2) := by
      unfold m_Md_chance_L35
      refine loop_ex (fun n (t : Int × Int × HP) => t.1 = chN V s x y k n ∧ t.2.1 = n ∧ frC h1 t.2.2) 0 6 _ (by omega) (by omega) ⟨rfl, rfl, frC.rf h1⟩ (fun n t n0 n1 hS => ?_) (fun t hS => ?_)
      · obtain ⟨f, n', g⟩ := t
        obtain ⟨z1, z2, z3⟩ := hS
        (try dsimp only at z1 z2 z3 ⊢)
        subst z2
        have Mg : isM g V := isM_sm z3.sm R1.2.1
        have hbn := hb n' n0
        obtain ⟨g1, e1, f1⟩ := M_drawn (x := x) (y := y) Mg K (by omega) (by omega) (w32 (s + n'))
        have F1 : frC h1 g1 := z3.tr (fun p j n => by
          unfold scr at n
          exact f1 p j (by omega))
        unfold m_Md_chance_L35b
        rw [if_neg (by omega), e1, w32_id (x := n' + 1) (by omega) (by omega), es n' n0]
        simp only [b2_some, bv_some]
        rw [z1]
        by_cases q : dl V x y (w32 (s + n')) < k
        · rw [if_pos q, if_pos q, w32_id (by omega) (by omega)]
          exact ⟨_, rfl, rfl, rfl, F1⟩
        · rw [if_neg q, if_neg q, w32_id (by omega) (by omega)]
          exact ⟨_, rfl, rfl, rfl, F1⟩
      · obtain ⟨f, n', g⟩ := t
        obtain ⟨z1, z2, z3⟩ := hS
        (try dsimp only at z1 z2 z3 ⊢)
        subst z2
        have hbn := hb 6 (by omega)
        unfold m_Md_chance_L35b m_Md_chance_J73
        rw [if_pos (by omega), z1, M_lowest p g (a := chN V s x y k 6) (b := 6) (by omega) (by omega)]
        exact ⟨_, rfl, rfl, z3⟩
    obtain ⟨⟨a', h2⟩, e2, w2, f2⟩ := key
    (try dsimp only at w2 f2)
    refine ⟨a, h1, h2, ?_, ?_, V, Rl_fr f2 R1⟩
    · rw [if_pos c.1, if_neg (by omega), if_pos c.2.2, e1]
    · simp only [M_isTwo R1.2.1 K, b1_some, if10]
      rw [if_pos c.1, if_neg (by omega), if_pos c.2.2, e2, w1, w2]
  · refine ⟨-9223372036854775808, h, h, ?_, ?_, V, R⟩
    · (repeat' split) <;> first | (exfalso; exact c ⟨‹_›, by omega, ‹_›⟩) | rfl
    · simp only [M_isTwo M K, b1_some, if10]
      (repeat' split) <;> first | (exfalso; exact c ⟨‹_›, by omega, ‹_›⟩) | rfl
