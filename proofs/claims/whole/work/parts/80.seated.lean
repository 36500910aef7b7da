/-! PURE: seats given anew -/
theorem Sm_add (f g : Int → Int) {n : Int} (hn : 0 ≤ n) : Sm (fun i => f i + g i) n = Sm f n + Sm g n := by
  obtain ⟨k, rfl⟩ : ∃ k : Nat, n = k := ⟨n.toNat, by omega⟩
  induction k with
  | zero => rfl
  | succ k ih =>
    rw [show ((k + 1 : Nat) : Int) = (k : Int) + 1 by omega, Sm_s _ (by omega), Sm_s _ (by omega), Sm_s _ (by omega), ih (by omega)]
    omega
theorem Sm_zero {f : Int → Int} {n : Int} (h : ∀ i, 0 ≤ i → i < n → f i = 0) : Sm f n = 0 := by
  rcases Int.lt_or_le n 0 with c | c
  · exact Sm_neg _ (by omega)
  · have := Sm_tail0 (f := f) (a := 0) (b := n) (by omega) c h
    rw [this]
    rfl
theorem Sm_comm (f : Int → Int → Int) {n m : Int} (hn : 0 ≤ n) (hm : 0 ≤ m) : Sm (fun k => Sm (fun i => f k i) m) n = Sm (fun i => Sm (fun k => f k i) n) m := by
  obtain ⟨k, rfl⟩ : ∃ k : Nat, n = k := ⟨n.toNat, by omega⟩
  induction k with
  | zero =>
    show (0 : Int) = _
    exact (Sm_zero (fun i _ _ => rfl)).symm
  | succ k ih =>
    rw [show ((k + 1 : Nat) : Int) = (k : Int) + 1 by omega, Sm_s _ (by omega), ih (by omega), ← Sm_add _ _ hm]
    exact Sm_congr (fun i _ _ => (Sm_s _ (by omega)).symm)
/-- at most one that isn't 0 -/
theorem Sm_sgl {f : Int → Int} {n a : Int} (ha : 0 ≤ a ∧ a < n) (h : ∀ i, 0 ≤ i → i < n → i ≠ a → f i = 0) : Sm f n = f a := by
  have h1 := Sm_tail0 (f := f) (a := a + 1) (b := n) (by omega) (by omega) (fun i i0 i1 => h i (by omega) i1 (by omega))
  rw [h1, Sm_s _ ha.1, Sm_zero (fun i i0 i1 => h i i0 (by omega) (by omega))]
  omega
theorem Sm_one_le {f : Int → Int} {n a : Int} (hn : 0 ≤ n) (h : ∀ i, 0 ≤ i → i < n → i ≠ a → f i = 0) (hb : f a ≤ 1) : Sm f n ≤ 1 := by
  by_cases c : 0 ≤ a ∧ a < n
  · rw [Sm_sgl c h]
    exact hb
  · rw [Sm_zero (fun i i0 i1 => h i i0 i1 (fun e => c (by omega)))]
    omega
theorem Sm_two {f : Int → Int} {n j k : Int} (h0 : ∀ i, 0 ≤ i → i < n → 0 ≤ f i) (hj : 0 ≤ j) (hjk : j < k) (hk : k < n) (fj : 1 ≤ f j) (fk : 1 ≤ f k) : 2 ≤ Sm f n := by
  have a1 := Sm_mono (f := f) (a := k + 1) (b := n) (by omega) (by omega) (fun i i0 i1 => h0 i (by omega) i1)
  have a2 := Sm_mono (f := f) (a := j + 1) (b := k) (by omega) (by omega) (fun i i0 i1 => h0 i (by omega) (by omega))
  have a3 := Sm_nn (f := f) (n := j) hj (fun i i0 i1 => h0 i i0 (by omega))
  rw [Sm_s f (by omega)] at a1 a2
  omega
/-- no pair comes twice -/
theorem Rk_inj {V : Vw} (K : okVw V) (s : Int) {j k : Int} (hj : 0 ≤ j) (hjk : j < k) (hk : k < (Rk V s).1) : (Rk V s).2 j ≠ (Rk V s).2 k := by
  intro e
  have hm := K.m
  obtain ⟨x, hx⟩ : ∃ x, x = ((Rk V s).2 k).1 := ⟨_, rfl⟩
  obtain ⟨y, hy⟩ : ∃ y, y = ((Rk V s).2 k).2 := ⟨_, rfl⟩
  have ek : (Rk V s).2 k = (x, y) := by rw [hx, hy]
  have h1 := Rk_sum K s (fun p => if p = (x, y) then 1 else 0)
  have h2 := Sm_two (f := fun j => if (Rk V s).2 j = (x, y) then (1 : Int) else 0) (n := (Rk V s).1) (fun i _ _ => by (try dsimp only); split <;> omega) hj hjk hk (by (try dsimp only); rw [e, ek, if_pos rfl]; omega) (by (try dsimp only); rw [ek, if_pos rfl]; omega)
  have h3 : D2 V (fun x' y' => if rch V x' y' then (if (x', y') = (x, y) then (1 : Int) else 0) else 0) ≤ 1 := by
    unfold D2
    refine Sm_one_le (a := x) hm.1 (fun i i0 i1 n => ?_) ?_
    · unfold D1
      refine Sm_zero (fun l l0 l1 => ?_)
      have : ¬ ((i, i + 1 + l) = (x, y)) := fun w => by
        injection w with w1 w2
        exact n w1
      (try dsimp only)
      rw [if_neg this]
      split <;> rfl
    · unfold D1
      by_cases c : 0 ≤ V 0 1 0 - 1 - x
      · refine Sm_one_le (a := y - x - 1) c (fun l l0 l1 n => ?_) ?_
        · have : ¬ ((x, x + 1 + l) = (x, y)) := fun w => by
            injection w with w1 w2
            omega
          (try dsimp only)
          rw [if_neg this]
          split <;> rfl
        · (try dsimp only)
          (repeat' split) <;> omega
      · rw [Sm_neg _ (by omega)]
        omega
  omega
/-! who sits -/
def gaS (V : Vw) : Nat → Int × (Int → Int)
  | 0 => (0, fun _ => 0)
  | c + 1 => if 0 ≤ V 5 c 0 ∧ (gaS V c).1 < 6 then ((gaS V c).1 + 1, fun j => if j = (gaS V c).1 then (c : Int) else (gaS V c).2 j) else gaS V c
theorem gaS_p (V : Vw) (c : Nat) : (0 ≤ (gaS V c).1 ∧ (gaS V c).1 ≤ 6 ∧ (gaS V c).1 ≤ c) ∧ (∀ i, 0 ≤ i → i < (gaS V c).1 → 0 ≤ (gaS V c).2 i ∧ (gaS V c).2 i < c ∧ 0 ≤ V 5 ((gaS V c).2 i) 0) ∧ ∀ i j, 0 ≤ i → i < j → j < (gaS V c).1 → (gaS V c).2 i < (gaS V c).2 j := by
  induction c with
  | zero => exact ⟨⟨Int.le_refl _, by show (0 : Int) ≤ 6; omega, Int.le_refl _⟩, fun i a b => by have : (gaS V 0).1 = 0 := rfl; omega, fun i j a b d => by have : (gaS V 0).1 = 0 := rfl; omega⟩
  | succ c ih =>
    obtain ⟨i1, i2, i3⟩ := ih
    unfold gaS
    by_cases d : 0 ≤ V 5 c 0 ∧ (gaS V c).1 < 6
    · rw [if_pos d]
      refine ⟨⟨by (try dsimp only); omega, by (try dsimp only); omega, by (try dsimp only); omega⟩, fun i a b => ?_, fun i j a b e => ?_⟩
      · (try dsimp only at b ⊢)
        by_cases q : i = (gaS V c).1
        · rw [if_pos q]
          exact ⟨by omega, by omega, d.1⟩
        · rw [if_neg q]
          have := i2 i a (by omega)
          exact ⟨this.1, by omega, this.2.2⟩
      · (try dsimp only at e ⊢)
        rw [if_neg (by omega)]
        by_cases q : j = (gaS V c).1
        · rw [if_pos q]
          exact (i2 i a (by omega)).2.1
        · rw [if_neg q]
          exact i3 i j a b (by omega)
    · rw [if_neg d]
      exact ⟨by omega, fun i a b => by have := i2 i a b; exact ⟨this.1, by omega, this.2.2⟩, i3⟩
theorem gaS_s (V : Vw) {c : Int} (hc : 0 ≤ c) : gaS V (c + 1).toNat = if 0 ≤ V 5 c 0 ∧ (gaS V c.toNat).1 < 6 then ((gaS V c.toNat).1 + 1, fun j => if j = (gaS V c.toNat).1 then c else (gaS V c.toNat).2 j) else gaS V c.toNat := by
  rw [show (c + 1).toNat = c.toNat + 1 by omega]
  show (if 0 ≤ V 5 (c.toNat : Int) 0 ∧ (gaS V c.toNat).1 < 6 then ((gaS V c.toNat).1 + 1, fun j => if j = (gaS V c.toNat).1 then (c.toNat : Int) else (gaS V c.toNat).2 j) else gaS V c.toNat) = _
  rw [show ((c.toNat : Nat) : Int) = c by omega]
theorem gaS_6 {V : Vw} {c : Nat} (h : 6 ≤ (gaS V c).1) (d : Nat) : gaS V (c + d) = gaS V c := by
  induction d with
  | zero => rfl
  | succ d ih =>
    show (if 0 ≤ V 5 ((c + d : Nat) : Int) 0 ∧ (gaS V (c + d)).1 < 6 then _ else gaS V (c + d)) = _
    rw [ih, if_neg (by omega)]
def sz (V : Vw) : Int := (gaS V (V 0 1 0).toNat).1
def who (V : Vw) : Int → Int := (gaS V (V 0 1 0).toNat).2
theorem who_p {V : Vw} (K : okVw V) : (0 ≤ sz V ∧ sz V ≤ 6) ∧ (∀ i, 0 ≤ i → i < sz V → 0 ≤ who V i ∧ who V i < V 0 1 0) ∧ ∀ i j, 0 ≤ i → i < j → j < sz V → who V i < who V j := by
  have hm := K.m
  have h := gaS_p V (V 0 1 0).toNat
  refine ⟨⟨h.1.1, h.1.2.1⟩, fun i a b => ?_, h.2.2⟩
  have := h.2.1 i a b
  exact ⟨this.1, by have := this.2.1; unfold who; omega⟩
/-- near suspects, in an order of seats -/
def nst (V : Vw) (L : Int → Int) (r : Int) (q : Int → Int) (i j : Int) : Int := if i < j ∧ (L (who V i)).toNat.testBit (who V j).toNat = true ∧ nearP V (who V (q i)) (who V (q j)) r then 1 else 0
def nsQ (V : Vw) (L : Int → Int) (r : Int) (q : Int → Int) : Int := Sm (fun i => Sm (fun j => nst V L r q i j) (sz V)) (sz V)
theorem nst_bd (V : Vw) (L : Int → Int) (r : Int) (q : Int → Int) (i j : Int) : 0 ≤ nst V L r q i j ∧ nst V L r q i j ≤ 1 := by
  unfold nst
  split <;> omega
theorem nsi_bd {V : Vw} (K : okVw V) (L : Int → Int) (r : Int) (q : Int → Int) (i : Int) {n : Int} (hn : 0 ≤ n ∧ n ≤ 6) : 0 ≤ Sm (fun j => nst V L r q i j) n ∧ Sm (fun j => nst V L r q i j) n ≤ 6 := by
  have := Sm_bd (f := fun j => nst V L r q i j) 0 1 hn.1 (fun j _ _ => nst_bd V L r q i j)
  omega
theorem nsQ_ag {V : Vw} {L : Int → Int} {r : Int} {p q : Int → Int} (h : agQ (sz V) p q) : nsQ V L r p = nsQ V L r q := Sm_congr (fun i i0 i1 => Sm_congr (fun j j0 j1 => by
  unfold nst
  rw [h i i0 i1, h j j0 j1]))
section St
variable {h : HP} {V : Vw} {L : Int → Int} {r : Int}
theorem X_gather (X : isX 1 h V) (K : okVw V) : ∃ h1, m_Seating_gather 108 1 h = some h1 ∧ h1 108 0 = sz V ∧ (∀ i, 0 ≤ i → i < sz V → h1 109 i = who V i ∧ h1 110 i = i) ∧ ∀ p j, ¬ (108 ≤ p ∧ p ≤ 110) → h1 p j = h p j := by
  have hm := K.m
  unfold m_Seating_gather m_Seating_gather_L7
  simp only [bv_some]
  refine loop_ex (fun c (t : Int × HP) => t.1 = c ∧ t.2 108 0 = (gaS V c.toNat).1 ∧ (∀ i, 0 ≤ i → i < (gaS V c.toNat).1 → t.2 109 i = (gaS V c.toNat).2 i ∧ t.2 110 i = i) ∧ ∀ p j, ¬ (108 ≤ p ∧ p ≤ 110) → t.2 p j = h p j) 0 (V 0 1 0) _ (by omega) (by omega) ⟨rfl, show upd2 h 108 0 0 108 0 = 0 from upd2_eq _ _ _ _, fun i a b => by have : (gaS V (0 : Int).toNat).1 = 0 := rfl; omega, fun p j n => upd2_np _ (by omega)⟩ (fun c t c0 c1 hS => ?_) (fun t hS => ?_)
  · obtain ⟨c', g⟩ := t
    obtain ⟨z1, z2, z3, z4⟩ := hS
    (try dsimp only at z1 z2 z3 z4 ⊢)
    subst z1
    have Xg : isX 1 g V := isX_cg (fun p j a b => z4 p j (by omega)) X
    have hp := gaS_p V c'.toNat
    unfold m_Seating_gather_L7b
    simp only [Int.reduceAdd]
    rw [Xg.m, if_neg (by omega), X_hasSeat Xg (by omega), z2, gaS_s V c0, w32_id (x := c' + 1) (by omega) (by omega)]
    simp only [b1_some, if10]
    by_cases d : 0 ≤ V 5 c' 0
    · rw [if_pos d]
      by_cases e : (gaS V c'.toNat).1 < 6
      · rw [if_neg (by omega), if_pos (by omega), if_pos ⟨d, e⟩]
        simp only [bv_some]
        have u1 : upd2 g 109 (gaS V c'.toNat).1 c' 108 0 = (gaS V c'.toNat).1 := by
          rw [upd2_np _ (by omega)]
          exact z2
        rw [u1, if_pos (by omega)]
        have u2 : upd2 (upd2 g 109 (gaS V c'.toNat).1 c') 110 (gaS V c'.toNat).1 (gaS V c'.toNat).1 108 0 = (gaS V c'.toNat).1 := by
          rw [upd2_np _ (by omega)]
          exact u1
        rw [u2, w32_id (by omega) (by omega)]
        refine ⟨_, rfl, rfl, ?_, fun i a b => ?_, fun p j n => ?_⟩
        · (try dsimp only)
          rw [upd2_eq]
        · (try dsimp only at b ⊢)
          by_cases q : i = (gaS V c'.toNat).1
          · rw [if_pos q, q, upd2_np _ (by omega), upd2_np _ (by omega), upd2_eq, upd2_np _ (by omega), upd2_eq]
            exact ⟨rfl, rfl⟩
          · rw [if_neg q, upd2_np _ (by omega), upd2_np _ (by omega), upd2_nj _ q, upd2_np _ (by omega), upd2_nj _ q, upd2_np _ (by omega)]
            exact z3 i a (by omega)
        · (try dsimp only)
          rw [upd2_np _ (by omega), upd2_np _ (by omega), upd2_np _ (by omega)]
          exact z4 p j n
      · rw [if_pos (by omega), if_neg (fun q => e q.2)]
        exact ⟨_, rfl, rfl, z2, z3, z4⟩
    · rw [if_neg d, if_neg (fun q => d q.1)]
      exact ⟨_, rfl, rfl, z2, z3, z4⟩
  · obtain ⟨c', g⟩ := t
    obtain ⟨z1, z2, z3, z4⟩ := hS
    (try dsimp only at z1 z2 z3 z4 ⊢)
    have Xg : isX 1 g V := isX_cg (fun p j a b => z4 p j (by omega)) X
    unfold m_Seating_gather_L7b
    rw [Xg.m, z1, if_pos (by omega)]
    exact ⟨_, rfl, z2, z3, z4⟩
/-- rows of bits among those who sit -/
def rlOK (V : Vw) (L : Int → Int) (r : Int) (h : HP) (i n : Int) : Prop := is8 (h 111 i) ∧ is8 (h 112 i) ∧ ∀ j, 0 ≤ j → j < 8 → (bt (h 111 i) j ↔ j < n ∧ j ≠ i ∧ nearP V (who V i) (who V j) r) ∧ (bt (h 112 i) j ↔ j < n ∧ j ≠ i ∧ bt (L (who V i)) (who V j))
theorem X_relate (X : isX 1 h V) (K : okVw V) (hL : Lok (V 0 1 0) L) (hl : ∀ c, 0 ≤ c → c < 8 → h 107 c = L c) (h0 : h 108 0 = sz V) (hw : ∀ i, 0 ≤ i → i < sz V → h 109 i = who V i) : ∃ h1, m_Seating_relate 108 1 106 r h = some h1 ∧ (∀ i, 0 ≤ i → i < sz V → rlOK V L r h1 i (sz V)) ∧ ∀ p j, ¬ (p = 111 ∨ p = 112) → h1 p j = h p j := by
  have hm := K.m
  have hp := who_p K
  unfold m_Seating_relate m_Seating_relate_L3
  refine loop_ex (fun i (t : Int × HP) => t.1 = i ∧ (∀ i', 0 ≤ i' → i' < i → rlOK V L r t.2 i' (sz V)) ∧ ∀ p j, ¬ (p = 111 ∨ p = 112) → t.2 p j = h p j) 0 (sz V) _ (by omega) (by omega) ⟨rfl, fun i a b => by omega, fun p j n => rfl⟩ (fun i t i0 i1 hS => ?_) (fun t hS => ?_)
  · obtain ⟨i', g⟩ := t
    obtain ⟨z1, z2, z3⟩ := hS
    (try dsimp only at z1 z2 z3 ⊢)
    subst z1
    have hwi := hp.2.1 i' i0 i1
    unfold m_Seating_relate_L3b m_Seating_relate_L31
    simp only [Int.reduceAdd, bv_some]
    rw [z3 108 0 (by omega), h0, if_neg (by omega), if_pos (by omega), if_pos (by omega)]
    have lp : ∃ u, loopO (fun s : Int × HP => m_Seating_relate_L31b 108 1 106 r i' s.1 s.2) FUEL (0, upd2 (upd2 g 111 i' 0) 112 i' 0) = some u ∧ ∃ g', u = .inl (i' + 1, g') ∧ (∀ i, 0 ≤ i → i < i' + 1 → rlOK V L r g' i (sz V)) ∧ ∀ p j, ¬ (p = 111 ∨ p = 112) → g' p j = h p j := by
      refine loop_ex (fun k (t : Int × HP) => t.1 = k ∧ (∀ i, 0 ≤ i → i < i' → rlOK V L r t.2 i (sz V)) ∧ rlOK V L r t.2 i' k ∧ ∀ p j, ¬ (p = 111 ∨ p = 112) → t.2 p j = h p j) 0 (sz V) _ (by omega) (by omega) ⟨rfl, fun i a b => ?_, ?_, fun p j n => ?_⟩ (fun k t k0 k1 hS => ?_) (fun t hS => ?_)
      · have := z2 i a b
        unfold rlOK at this ⊢
        (try dsimp only)
        have e1 : upd2 (upd2 g 111 i' 0) 112 i' 0 111 i = g 111 i := by
          rw [upd2_np _ (by omega), upd2_nj _ (by omega)]
        have e2 : upd2 (upd2 g 111 i' 0) 112 i' 0 112 i = g 112 i := by
          rw [upd2_nj _ (by omega), upd2_np _ (by omega)]
        rw [e1, e2]
        exact this
      · unfold rlOK
        (try dsimp only)
        have e1 : upd2 (upd2 g 111 i' 0) 112 i' 0 111 i' = 0 := by
          rw [upd2_np _ (by omega), upd2_eq]
        have e2 : upd2 (upd2 g 111 i' 0) 112 i' 0 112 i' = 0 := by
          rw [upd2_eq]
        rw [e1, e2]
        exact ⟨is8_0.1, is8_0.1, fun j j0 j1 => ⟨⟨fun q => absurd q (is8_0.2 j), fun q => by omega⟩, ⟨fun q => absurd q (is8_0.2 j), fun q => by omega⟩⟩⟩
      · (try dsimp only)
        rw [upd2_np _ (by omega), upd2_np _ (by omega)]
        exact z3 p j n
      · obtain ⟨k', g1⟩ := t
        obtain ⟨w1, w2, w3, w4⟩ := hS
        (try dsimp only at w1 w2 w3 w4 ⊢)
        subst w1
        have Xg : isX 1 g1 V := isX_cg (fun p j a b => w4 p j (by omega)) X
        have hwk := hp.2.1 k' k0 k1
        have ei : g1 109 i' = who V i' := by rw [w4 109 i' (by omega)]; exact hw i' i0 i1
        have ek : g1 109 k' = who V k' := by rw [w4 109 k' (by omega)]; exact hw k' k0 k1
        have el : g1 107 (who V i') = L (who V i') := by rw [w4 107 _ (by omega)]; exact hl _ (by omega) (by omega)
        have lk := hL (who V i') (by omega) (by omega)
        obtain ⟨b1', b2', b3'⟩ := w3
        have ss := is8_sh (c := k') (by omega)
        -- with row 111 settled, row 112
        have J : ∀ g2 : HP, is8 (g2 111 i') → (∀ j, 0 ≤ j → j < 8 → (bt (g2 111 i') j ↔ j < k' + 1 ∧ j ≠ i' ∧ nearP V (who V i') (who V j) r)) → (∀ j, j ≠ i' → g2 111 j = g1 111 j) → (∀ p j, p ≠ 111 → g2 p j = g1 p j) → ∃ t : Int × HP, m_Seating_relate_J83 108 1 106 r i' k' g2 = some (.inl t) ∧ t.1 = k' + 1 ∧ (∀ i, 0 ≤ i → i < i' → rlOK V L r t.2 i (sz V)) ∧ rlOK V L r t.2 i' (k' + 1) ∧ ∀ p j, ¬ (p = 111 ∨ p = 112) → t.2 p j = h p j := fun g2 n1 n2 n3 n4 => by
          have old : ∀ g3 : HP, (∀ j, g3 111 j = g2 111 j) → (∀ j, j ≠ i' → g3 112 j = g2 112 j) → ∀ i, 0 ≤ i → i < i' → rlOK V L r g3 i (sz V) := fun g3 m1 m2 i a b => by
            have := w2 i a b
            unfold rlOK at this ⊢
            rw [m1, m2 i (by omega), n3 i (by omega), n4 112 i (by omega)]
            exact this
          unfold m_Seating_relate_J83
          simp only [Int.reduceAdd]
          rw [w32_id (x := k' + 1) (by omega) (by omega)]
          by_cases c : k' = i'
          · rw [if_pos c]
            refine ⟨_, rfl, rfl, old g2 (fun _ => rfl) (fun _ _ => rfl), ⟨n1, by (try dsimp only); rw [n4 112 i' (by omega)]; exact b2', fun j j0 j1 => ⟨n2 j j0 j1, ?_⟩⟩, fun p j n => by (try dsimp only); rw [n4 p j (by omega)]; exact w4 p j n⟩
            (try dsimp only)
            rw [n4 112 i' (by omega), (b3' j j0 j1).2]
            constructor
            · rintro ⟨q1, q2, q3⟩
              exact ⟨by omega, q2, q3⟩
            · rintro ⟨q1, q2, q3⟩
              exact ⟨by omega, q2, q3⟩
          · have e9 : g2 109 i' = who V i' := by rw [n4 109 i' (by omega)]; exact ei
            have e9k : g2 109 k' = who V k' := by rw [n4 109 k' (by omega)]; exact ek
            have e7 : g2 107 (who V i') = L (who V i') := by rw [n4 107 _ (by omega)]; exact el
            have e12 : g2 112 i' = g1 112 i' := n4 112 i' (by omega)
            have ar : m_Links_areSuspect 106 (who V i') (who V k') g2 = some (if iAnd (iShr (L (who V i')) (who V k')) 1 = 0 then 0 else 1) := by
              unfold m_Links_areSuspect
              simp only [Int.reduceAdd]
              rw [if_pos (by omega)]
              by_cases q : iAnd (iShr (L (who V i')) (who V k')) 1 = 0
              · rw [if_pos (by rw [e7]; exact q), if_pos q]
              · rw [if_neg (by rw [e7]; exact q), if_neg q]
            rw [if_neg c, if_pos (by omega), if_pos (by omega), e9, e9k, ar]
            simp only [b1_some]
            rcases bit_get lk.1 (d := who V k') (by omega) with ⟨b, eb⟩ | ⟨b, eb⟩
            · have oo := is8_or b2' ss.1
              rw [if_neg (show ¬ iAnd (iShr (L (who V i')) (who V k')) 1 = 0 by omega), if_neg (by omega), if_pos (by omega), if_pos (by omega), e12]
              simp only [bv_some]
              refine ⟨_, rfl, rfl, old _ (fun j => by (try dsimp only); exact upd2_np _ (by omega)) (fun j hj => by (try dsimp only); exact upd2_nj _ hj), ⟨?_, ?_, fun j j0 j1 => ⟨?_, ?_⟩⟩, fun p j n => ?_⟩
              · (try dsimp only)
                rw [upd2_np _ (by omega)]
                exact n1
              · (try dsimp only)
                rw [upd2_eq]
                exact oo.1
              · (try dsimp only)
                rw [upd2_np _ (by omega)]
                exact n2 j j0 j1
              · (try dsimp only)
                rw [upd2_eq, oo.2 j, (b3' j j0 j1).2, ss.2 j j0]
                constructor
                · rintro (⟨q1, q2, q3⟩ | q)
                  · exact ⟨by omega, q2, q3⟩
                  · rw [q]
                    exact ⟨by omega, c, b⟩
                · rintro ⟨q1, q2, q3⟩
                  by_cases q : j = k'
                  · exact Or.inr q
                  · exact Or.inl ⟨by omega, q2, q3⟩
              · (try dsimp only)
                rw [upd2_np _ (by omega), n4 p j (by omega)]
                exact w4 p j n
            · rw [if_pos eb, if_pos rfl]
              refine ⟨_, rfl, rfl, old g2 (fun _ => rfl) (fun _ _ => rfl), ⟨n1, by (try dsimp only); rw [e12]; exact b2', fun j j0 j1 => ⟨n2 j j0 j1, ?_⟩⟩, fun p j n => by (try dsimp only); rw [n4 p j (by omega)]; exact w4 p j n⟩
              (try dsimp only)
              rw [e12, (b3' j j0 j1).2]
              constructor
              · rintro ⟨q1, q2, q3⟩
                exact ⟨by omega, q2, q3⟩
              · rintro ⟨q1, q2, q3⟩
                by_cases q : j = k'
                · rw [q] at q3
                  exact absurd q3 b
                · exact ⟨by omega, q2, q3⟩
        have keep : ¬ (k' ≠ i' ∧ nearP V (who V i') (who V k') r) → ∀ j, 0 ≤ j → j < 8 → (bt (g1 111 i') j ↔ j < k' + 1 ∧ j ≠ i' ∧ nearP V (who V i') (who V j) r) := fun nk j j0 j1 => by
          rw [(b3' j j0 j1).1]
          constructor
          · rintro ⟨q1, q2, q3⟩
            exact ⟨by omega, q2, q3⟩
          · rintro ⟨q1, q2, q3⟩
            by_cases q : j = k'
            · rw [q] at q2 q3
              exact absurd ⟨q2, q3⟩ nk
            · exact ⟨by omega, q2, q3⟩
        unfold m_Seating_relate_L31b
        simp only [Int.reduceAdd, bv_some]
        rw [w4 108 0 (by omega), h0, if_neg (by omega)]
        by_cases c : k' = i'
        · rw [if_pos c]
          exact J g1 b1' (keep (fun q => q.1 c)) (fun _ _ => rfl) (fun _ _ _ => rfl)
        · rw [if_neg c, if_pos (by omega), if_pos (by omega), ei, ek, X_near Xg K (by omega) (by omega)]
          simp only [b1_some, if10]
          by_cases d : nearP V (who V i') (who V k') r
          · have oo := is8_or b1' ss.1
            rw [if_pos d, if_pos (by omega), if_pos (by omega)]
            refine J _ (by rw [upd2_eq]; exact oo.1) (fun j j0 j1 => ?_) (fun j hj => upd2_nj _ hj) (fun p j n => upd2_np _ n)
            rw [upd2_eq, oo.2 j, (b3' j j0 j1).1, ss.2 j j0]
            constructor
            · rintro (⟨q1, q2, q3⟩ | q)
              · exact ⟨by omega, q2, q3⟩
              · rw [q]
                exact ⟨by omega, c, d⟩
            · rintro ⟨q1, q2, q3⟩
              by_cases q : j = k'
              · exact Or.inr q
              · exact Or.inl ⟨by omega, q2, q3⟩
          · rw [if_neg d]
            exact J g1 b1' (keep (fun q => d q.2)) (fun _ _ => rfl) (fun _ _ _ => rfl)
      · obtain ⟨k', g1⟩ := t
        obtain ⟨w1, w2, w3, w4⟩ := hS
        (try dsimp only at w1 w2 w3 w4 ⊢)
        unfold m_Seating_relate_L31b
        rw [w4 108 0 (by omega), h0, w1, if_pos (by omega), w32_id (by omega) (by omega)]
        refine ⟨_, rfl, g1, rfl, fun i a b => ?_, w4⟩
        by_cases q : i = i'
        · rw [q]; exact w3
        · exact w2 i a (by omega)
    obtain ⟨u, d1, g', d2, d3, d4⟩ := lp
    rw [d1, d2]
    exact ⟨_, rfl, rfl, d3, d4⟩
  · obtain ⟨i', g⟩ := t
    obtain ⟨z1, z2, z3⟩ := hS
    (try dsimp only at z1 z2 z3 ⊢)
    subst z1
    unfold m_Seating_relate_L3b
    rw [z3 108 0 (by omega), h0, if_pos (by omega)]
    exact ⟨_, rfl, z2, z3⟩
theorem X_nearS (K : okVw V) {q : Int → Int} (h0 : h 108 0 = sz V) (hr : ∀ i, 0 ≤ i → i < sz V → rlOK V L r h i (sz V)) (hq : h 110 = q) (ok : (∀ i, 0 ≤ i → i < sz V → 0 ≤ q i ∧ q i < sz V) ∧ ∀ i j, 0 ≤ i → i < sz V → 0 ≤ j → j < sz V → i ≠ j → q i ≠ q j) : m_Seating_nearSuspects 108 h = some (nsQ V L r q) := by
  have hp := who_p K
  subst hq
  unfold m_Seating_nearSuspects m_Seating_nearSuspects_L4
  refine loop_seq (fun i => (Sm (fun i => Sm (fun j => nst V L r (h 110) i j) (sz V)) i, i)) 0 (sz V) (by omega) (by omega) rfl (fun i i0 i1 => ?_) ?_
  · have hS := Sm_bd (f := fun i => Sm (fun j => nst V L r (h 110) i j) (sz V)) 0 6 i0 (fun i _ _ => nsi_bd K L r (h 110) i (by omega))
    (try dsimp only)
    unfold m_Seating_nearSuspects_L4b m_Seating_nearSuspects_L16
    rw [h0, if_neg (by omega), w32_id (by omega) (by omega)]
    simp only [bv_some]
    have z : Sm (fun j => nst V L r (h 110) i j) (i + 1) = 0 := Sm_zero (fun j a b => by
      unfold nst
      rw [if_neg (by omega)])
    refine loop_seq (fun j => (Sm (fun i => Sm (fun j => nst V L r (h 110) i j) (sz V)) i + Sm (fun j => nst V L r (h 110) i j) j, j)) (i + 1) (sz V) (by omega) (by omega) (by rw [z, Int.add_zero]) (fun j j0 j1 => ?_) ?_
    · have hT := nsi_bd K L r (h 110) i (n := j) (by omega)
      have ri := hr i i0 i1
      have oi := ok.1 i i0 i1
      have oj := ok.1 j (by omega) j1
      have on := ok.2 i j i0 i1 (by omega) j1 (by omega)
      have rq := hr (h 110 i) oi.1 oi.2
      have en : nst V L r (h 110) i j = if (h 112 i).toNat.testBit j.toNat = true ∧ (h 111 (h 110 i)).toNat.testBit (h 110 j).toNat = true then 1 else 0 := by
        unfold nst
        have e1 := (ri.2.2 j (by omega) (by omega)).2
        have e2 := (rq.2.2 (h 110 j) (by omega) (by omega)).1
        by_cases c : (h 112 i).toNat.testBit j.toNat = true ∧ (h 111 (h 110 i)).toNat.testBit (h 110 j).toNat = true
        · rw [if_pos c, if_pos ⟨by omega, (e1.1 c.1).2.2, (e2.1 c.2).2.2⟩]
        · rw [if_neg c, if_neg (fun w => c ⟨e1.2 ⟨j1, by omega, w.2.1⟩, e2.2 ⟨oj.2, fun z => on z.symm, w.2.2⟩⟩)]
      (try dsimp only)
      unfold m_Seating_nearSuspects_L16b
      simp only [Int.reduceAdd]
      rw [h0, if_neg (by omega), if_pos (by omega), w32_id (x := j + 1) (by omega) (by omega), Sm_s _ (by omega), en]
      rcases bit_get ri.2.1 (d := j) (by omega) with ⟨b, eb⟩ | ⟨b, eb⟩
      · rw [if_neg (by omega), if_pos (by omega), if_pos (by omega), if_pos (by omega)]
        rcases bit_get rq.1 (d := h 110 j) (by omega) with ⟨b2, eb2⟩ | ⟨b2, eb2⟩
        · rw [if_neg (by omega), if_pos ⟨b, b2⟩, w32_id (by omega) (by omega), Int.add_assoc]
        · rw [if_pos eb2, if_neg (fun w => b2 w.2), Int.add_zero]
      · rw [if_pos eb, if_neg (fun w => b w.1), Int.add_zero]
    · (try dsimp only)
      unfold m_Seating_nearSuspects_L16b
      rw [h0, if_pos (by omega), w32_id (by omega) (by omega), Sm_s _ i0]
  · (try dsimp only)
    unfold m_Seating_nearSuspects_L4b
    rw [h0, if_pos (by omega)]
    rfl
end St
