/-! PURE: the class's order, its suspects -/
theorem rdq (V : Vw) (K : okVw V) (s : Int) (p : Int × Int) : (0 ≤ rdA (qo V s p) (qb V s p) ∧ rdA (qo V s p) (qb V s p) < 9223372036854775808) ∧ 0 < rdB (qo V s p) (qb V s p) ∧ rdB (qo V s p) (qb V s p) < 9223372036854775808 := by
  have hq := q_bd (s := s) K p
  have hr := rd_bd hq.1.1 (show 0 < qb V s p by omega)
  omega
section XO
variable {o r e : Int} {h : HP} {V : Vw} {s n : Int} {G : PG}
theorem X_holdsJ (K : okVw V) (hR : RC V o s n G h) (hn : n ≤ 28) {k t b : Int} (hk : 0 ≤ k ∧ k < n) (ht : 1 ≤ t ∧ t ≤ 28) (hb : 1 ≤ b ∧ b ≤ 28) : m_Ranking_holds_J66 o k (V 7 2 0) t b h = some (if low V s (G k) t b then 1 else 0) := by
  have hu := K.us
  have hj := hR.2 k hk.1 hk.2
  have hq := rdq V K s (G k)
  have hq2 := q_bd (s := s) K (G k)
  have m1 := Int.mul_le_mul (show V 7 2 0 ≤ 500 by omega) hb.2 (by omega) (by omega)
  have m2 := Int.mul_le_mul (show (1 : Int) ≤ V 7 2 0 by omega) hb.1 (by omega) (by omega)
  unfold m_Ranking_holds_J66
  rw [if_pos (by omega), if_pos (by omega), hj.2.2.1, hj.2.2.2, w64_id (by omega) (by omega), w64_id (by omega) (by omega), X_compare h (by omega) (by omega) (by omega) (by omega), cmp_rd1 (by omega)]
  simp only [b1_some]
  by_cases c : cmp4 (qo V s (G k)) (qb V s (G k)) (V 7 2 0 * b) (1000 * t) ≤ 0
  · rw [if_neg (by omega), if_pos c]
  · rw [if_pos (by omega), if_neg c]
theorem X_holds (K : okVw V) (hR : RC V o s n G h) (hn : n ≤ 28) {k : Int} (hk : 0 ≤ k ∧ k < n) : m_Ranking_holds o k (V 7 1 0) (V 7 2 0) h = some (if hold V s n G k then 1 else 0) := by
  have hu := K.us
  have e0 : h o 0 = n := hR.1
  unfold m_Ranking_holds
  rw [e0, w32_id (by omega) (by omega), w32_id (by omega) (by omega)]
  simp only [bv_some]
  rw [X_holdsJ K hR hn hk (by omega) (by omega), X_holdsJ K hR hn hk (t := n) (by omega) (by omega), X_holdsJ K hR hn hk (t := n - k) (by omega) (by omega), X_holdsJ K hR hn hk (t := n) (by omega) (by omega)]
  by_cases c0 : V 7 1 0 = 0
  · simp only [if_pos c0]
  · by_cases c1 : V 7 1 0 = 1
    · simp only [if_neg c0, if_pos c1]
    · by_cases c2 : V 7 1 0 = 2
      · simp only [if_neg c0, if_neg c1, if_pos c2]
      · simp only [if_neg c0, if_neg c1, if_neg c2]
theorem X_count (K : okVw V) (hR : RC V o s n G h) (hn : 0 ≤ n ∧ n ≤ 28) : m_Ranking_countSuspects o (V 7 1 0) (V 7 2 0) h = some (if V 7 1 0 = 3 then cdN V s n G n.toNat else cuN V s n G n.toNat) := by
  have e0 : h o 0 = n := hR.1
  unfold m_Ranking_countSuspects
  by_cases c : V 7 1 0 = 3
  · have hd := cdN_p V s n G n.toNat
    rw [if_pos c, if_pos c, e0]
    simp only [bv_some]
    unfold m_Ranking_countSuspects_L10
    refine loop_seq (fun d => n - d) 0 (n - cdN V s n G n.toNat) (by omega) (by omega) (by rw [Int.sub_zero]) (fun d d0 d1 => ?_) ?_
    · (try dsimp only)
      unfold m_Ranking_countSuspects_L10b
      rw [if_neg (by omega), w32_id (x := n - d - 1) (by omega) (by omega), X_holds K hR hn.2 (by omega), if_neg (hd.2.2 (n - d - 1) (by omega) (by omega))]
      simp only [b1_some, if_true]
      rw [w32_id (by omega) (by omega), show n - d + -1 = n - (d + 1) by omega]
    · rw [show n - (n - cdN V s n G n.toNat) = cdN V s n G n.toNat by omega]
      unfold m_Ranking_countSuspects_L10b
      by_cases q : cdN V s n G n.toNat ≤ 0
      · rw [if_pos q]
      · rw [if_neg q, w32_id (by omega) (by omega), X_holds K hR hn.2 (by omega), if_pos (hd.2.1 (by omega))]
        simp only [b1_some]
        rw [if_neg (by omega)]
  · have hu := cuN_p V s n G n.toNat
    rw [if_neg c, if_neg c]
    unfold m_Ranking_countSuspects_L36
    refine loop_seq (fun d => d) 0 (cuN V s n G n.toNat) (by omega) (by omega) rfl (fun d d0 d1 => ?_) ?_
    · (try dsimp only)
      unfold m_Ranking_countSuspects_L36b
      rw [e0, if_neg (by omega), X_holds K hR hn.2 (by omega), if_pos (hu.2.1 d d0 d1)]
      simp only [b1_some]
      rw [if_neg (by omega), w32_id (by omega) (by omega)]
    · (try dsimp only)
      unfold m_Ranking_countSuspects_L36b
      rw [e0]
      by_cases q : n ≤ cuN V s n G n.toNat
      · rw [if_pos q]
      · rw [if_neg q, X_holds K hR hn.2 (by omega), if_neg (hu.2.2 (by omega))]
        simp only [b1_some, if_true]
/-- places that an order uses: odds' own, the ranking's -/
def frK (o e : Int) (h h1 : HP) : Prop := ∀ p j, ¬ (e ≤ p ∧ p ≤ e + 2) → ¬ (o ≤ p ∧ p ≤ o + 6) → h1 p j = h p j
theorem frK.tr {h h1 h2 : HP} (a : frK o e h h1) (b : frK o e h1 h2) : frK o e h h2 := fun p j n m => (b p j n m).trans (a p j n m)
/-- the class's ranking when it is done -/
def XRk (V : Vw) (o s : Int) (h : HP) : Prop := RC V o s (Rk V s).1 (Rk V s).2 h ∧ h o 1 = Sc V s
theorem X_order (X : isX r h V) (K : okVw V) (hr : r + 29 < e) (ho : e + 2 < o) (hs : 0 ≤ s ∧ s ≤ 3) : ∃ h1, m_Ranking_order o r e s h = some h1 ∧ XRk V o s h1 ∧ frK o e h h1 := by
  have hm := K.m
  have hRk := Rk_inv K s
  unfold m_Ranking_order m_Ranking_order_L8
  simp only [bv_some]
  have Xg : ∀ g, frK o e h g → isX r g V := fun g f => isX_cg (fun p j a b => f p j (by omega) (by omega)) X
  refine loop_ex (fun x t => t.1 = x ∧ RC V o s (rkX V s x.toNat).1 (rkX V s x.toNat).2 t.2 ∧ frK o e h t.2) 0 (V 0 1 0) _ (by omega) (by omega) ⟨rfl, ⟨upd2_eq _ _ _ _, fun j a b => by have : (rkX V s (0 : Int).toNat).1 = 0 := rfl; omega⟩, fun p j n m => upd2_np _ (by omega)⟩ (fun x t x0 x1 hS => ?_) (fun t hS => ?_)
  · obtain ⟨x', g⟩ := t
    obtain ⟨q1, q2, q3⟩ := hS
    (try dsimp only at q1 q2 q3 ⊢)
    subst q1
    have hX := rkX_inv (V := V) (s := s) x'.toNat (by omega)
    have hT := triN_28 (m := V 0 1 0) (by omega) (k := x'.toNat + 1) (by omega)
    unfold m_Ranking_order_L8b
    rw [(Xg g q3).m, if_neg (by omega), w32_id (by omega) (by omega)]
    simp only [bv_some]
    unfold m_Ranking_order_L23
    have lp : ∃ u, loopO (fun t : Int × HP => m_Ranking_order_L23b o r e s x' t.1 t.2) FUEL (x' + 1, g) = some u ∧ ∃ g', u = .inl (x' + 1, g') ∧ RC V o s (rkX V s (x' + 1).toNat).1 (rkX V s (x' + 1).toNat).2 g' ∧ frK o e h g' := by
      refine loop_ex (fun y t => t.1 = y ∧ RC V o s (rkY V s x' (rkX V s x'.toNat) (y - x' - 1).toNat).1 (rkY V s x' (rkX V s x'.toNat) (y - x' - 1).toNat).2 t.2 ∧ frK o e h t.2) (x' + 1) (V 0 1 0) _ (by omega) (by omega) ⟨rfl, by rw [show (x' + 1 - x' - 1).toNat = 0 by omega]; exact q2, q3⟩ (fun y t y0 y1 hS => ?_) (fun t hS => ?_)
      · obtain ⟨y', g1⟩ := t
        obtain ⟨w1, w2, w3⟩ := hS
        (try dsimp only at w1 w2 w3 ⊢)
        subst w1
        have hY := rkY_inv (V := V) (s := s) (x := x') (by omega) hX.1 (y' - x' - 1).toNat (by omega)
        have hT1 : triN (V 0 1 0) (x'.toNat + 1) = triN (V 0 1 0) x'.toNat + max (V 0 1 0 - 1 - x'.toNat) 0 := rfl
        have eY : rkY V s x' (rkX V s x'.toNat) (y' + 1 - x' - 1).toNat = rkS V s x' y' (rkY V s x' (rkX V s x'.toNat) (y' - x' - 1).toNat) := by
          rw [show (y' + 1 - x' - 1).toNat = (y' - x' - 1).toNat + 1 by omega]
          unfold rkY
          rw [show x' + 1 + ((y' - x' - 1).toNat : Int) = y' by omega]
          cases (y' - x' - 1).toNat <;> rfl
        rw [eY]
        generalize rkY V s x' (rkX V s x'.toNat) (y' - x' - 1).toNat = st at w2 hY ⊢
        obtain ⟨n, G⟩ := st
        (try dsimp only at w2 hY ⊢)
        have e0 : g1 o 0 = n := w2.1
        have hn0 : 0 ≤ n := hY.1.1
        have X1 := Xg g1 w3
        unfold m_Ranking_order_L23b
        rw [X1.m, if_neg (by omega), X_inReach X1 K (by omega) (by omega), e0]
        simp only [b1_some, if10]
        unfold rkS
        by_cases c : rch V x' y'
        · rw [if_pos c, if_pos c, if_neg (by omega)]
          obtain ⟨g2, d1, d2, d3, d4⟩ := X_weighPair (x := x') (y := y') X1 K hr ho (by omega) (by omega) hs
          have R2 : RC V o s n G g2 := by
            refine ⟨by rw [d4 o 0 (by omega) (by omega) (by omega)]; exact e0, fun j j0 j1 => ?_⟩
            rw [d4 (o + 1) j (by omega) (by omega) (by omega), d4 (o + 2) j (by omega) (by omega) (by omega), d4 (o + 3) j (by omega) (by omega) (by omega), d4 (o + 4) j (by omega) (by omega) (by omega)]
            exact w2.2 j j0 j1
          obtain ⟨g3, f1, f2, f3⟩ := X_insert (x := x') (y := y') K (show 0 ≤ n ∧ n < 28 by omega) R2 d2 d3
          rw [d1]
          simp only [b1_some]
          rw [f1]
          simp only [b1_some]
          rw [w32_id (by omega) (by omega)]
          refine ⟨_, rfl, rfl, f2, fun p j n1 n2 => ?_⟩
          (try dsimp only)
          rw [f3 p j (by omega), d4 p j n1 (by omega) (by omega)]
          exact w3 p j n1 n2
        · rw [if_neg c, if_neg c, w32_id (by omega) (by omega)]
          exact ⟨_, rfl, rfl, w2, w3⟩
      · obtain ⟨y', g1⟩ := t
        obtain ⟨w1, w2, w3⟩ := hS
        (try dsimp only at w1 w2 w3 ⊢)
        unfold m_Ranking_order_L23b
        rw [(Xg g1 w3).m, w1, if_pos (by omega), w32_id (by omega) (by omega)]
        refine ⟨_, rfl, g1, rfl, ?_, w3⟩
        have eX : rkX V s (x' + 1).toNat = rkY V s x' (rkX V s x'.toNat) (V 0 1 0 - x' - 1).toNat := by
          rw [show (x' + 1).toNat = x'.toNat + 1 by omega]
          show rkY V s (x'.toNat : Int) (rkX V s x'.toNat) (V 0 1 0 - 1 - (x'.toNat : Int)).toNat = _
          rw [show ((x'.toNat : Nat) : Int) = x' by omega, show V 0 1 0 - 1 - x' = V 0 1 0 - x' - 1 by omega]
        rw [eX]
        exact w2
    obtain ⟨u, d1, g', d2, d3, d4⟩ := lp
    rw [d1, d2]
    exact ⟨_, rfl, rfl, d3, d4⟩
  · obtain ⟨x', g⟩ := t
    obtain ⟨q1, q2, q3⟩ := hS
    (try dsimp only at q1 q2 q3 ⊢)
    have X1 := Xg g q3
    have q2' : RC V o s (Rk V s).1 (Rk V s).2 g := q2
    have hc := X_count K q2' ⟨hRk.1.1, hRk.2⟩
    unfold m_Ranking_order_L8b m_Ranking_order_J83
    rw [X1.m, q1, if_pos (by omega), X1.us (by omega) (by omega), X1.us (by omega) (by omega), hc]
    simp only [b1_some, bv_some]
    refine ⟨_, rfl, ⟨⟨?_, fun j j0 j1 => ?_⟩, upd2_eq _ _ _ _⟩, fun p j n m => ?_⟩
    · rw [upd2_nj _ (by omega)]
      exact q2'.1
    · rw [upd2_np _ (by omega), upd2_np _ (by omega), upd2_np _ (by omega), upd2_np _ (by omega)]
      exact q2'.2 j j0 j1
    · rw [upd2_np _ (by omega)]
      exact q3 p j n m
end XO
