/-! PURE: read -/
theorem exT_s {V : Vw} {t : Int → Int} {L w told i : Int} (hi : i < L) : exT V t L (L - i).toNat w told i = if told = -1 ∧ 0 ≤ t i - 48 ∧ t i - 48 < V 0 1 0 then exT V t L (L - (i + 1)).toNat (w + 1) 0 (i + 1) else if 0 ≤ told ∧ told < V 0 0 0 ∧ ltr (t i) then exT V t L (L - (i + 1)).toNat w (told + 1) (i + 1) else if 0 < told ∧ t i = 59 ∧ w < 4 then exT V t L (L - (i + 1)).toNat w (-1) (i + 1) else -10 - i := by
  rw [show (L - i).toNat = (L - (i + 1)).toNat + 1 by omega]
  rfl
theorem exT_0 {V : Vw} {t : Int → Int} {L w told i : Int} (hi : i = L) : exT V t L (L - i).toNat w told i = if told ≤ 0 then -10 - L else w := by
  rw [show (L - i).toNat = 0 by omega]
  rfl
theorem tlT_s {t : Int → Int} {L : Int} {W : Vw} {c told i : Int} (hi : i < L) : tlT t (L - i).toNat W c told i = if t i = 59 then tlT t (L - (i + 1)).toNat W (-1) told (i + 1) else if c = -1 then tlT t (L - (i + 1)).toNat W (t i - 48) 0 (i + 1) else tlT t (L - (i + 1)).toNat (upV W 4 c told (if t i = 45 then -1 else t i - 97)) c (told + 1) (i + 1) := by
  rw [show (L - i).toNat = (L - (i + 1)).toNat + 1 by omega]
  rfl
theorem tlT_0 {t : Int → Int} {L : Int} {W : Vw} {c told i : Int} (hi : i = L) : tlT t (L - i).toNat W c told i = W := by
  rw [show (L - i).toNat = 0 by omega]
  rfl
def frQ (h g : HP) : Prop := ∀ p j, ¬ (p = 126 ∧ 23 ≤ j ∧ j ≤ 25) → ¬ (p = 130 ∧ 0 ≤ j ∧ j < 64) → g p j = h p j
/-- what a pass holds between clauses -/
def PI (V : Vw) (t : Int → Int) (L x1 R : Int) (TL : Vw) (h g : HP) (lo : Int) : Prop := ∃ (W : Vw) (a w f k c : Int), isM g W ∧ okVw W ∧ sm4 V W ∧ (x1 = 0 → W = V) ∧ frQ h g ∧ (g 126 23 = a ∧ g 126 24 = f ∧ g 126 25 = w) ∧ (lo ≤ a ∧ a ≤ L) ∧
  ((f = 1 ∧ R = -10 - a) ∨ (f = 0 ∧ (1 ≤ w ∧ w ≤ 4) ∧ (1 ≤ k ∧ k ≤ V 0 0 0) ∧ (0 ≤ c ∧ c < V 0 1 0) ∧ (k = V 0 0 0 ∨ a = L ∨ ¬ ltr (t a)) ∧ R = exT V t L (L - a).toNat w k a ∧ (x1 = 1 → tlT t (L - a).toNat W c k a = TL)))
section Rd
variable {h g : HP} {V : Vw} {t : Int → Int} {L : Int}
theorem M_here {a : Int} (hL : L ≤ 60) (h18 : g 126 18 = L) (h23 : g 126 23 = a) (ha : 0 ≤ a ∧ a ≤ L) (ht : ∀ i, 0 ≤ i → i < L → g 140 i = t i) : m_Md_here 126 g = some (if a < L then t a else -1) := by
  unfold m_Md_here
  simp only [Int.reduceAdd]
  rw [h18, h23]
  by_cases c : a < L
  · rw [if_neg (by omega), if_pos (by omega), if_pos c, ht a ha.1 c]
  · rw [if_pos (by omega), if_neg c]
theorem M_clause {x1 R p w told : Int} {TL W0 : Vw} (hx : x1 = 0 ∨ x1 = 1) (K : okVw V) (hL : 0 ≤ L ∧ L ≤ 60) (h18 : h 126 18 = L) (ht : ∀ i, 0 ≤ i → i < L → h 140 i = t i ∧ 0 ≤ t i ∧ t i ≤ 127) (M : isM g W0) (K0 : okVw W0) (s0 : sm4 V W0) (hW : x1 = 0 → W0 = V) (f0 : frQ h g) (h23 : g 126 23 = p) (h25 : g 126 25 = w) (hp : 0 ≤ p ∧ p ≤ L) (hw : 0 ≤ w ∧ w ≤ 3) (hR : R = exT V t L (L - p).toNat w (-1) p) (hT : x1 = 1 → tlT t (L - p).toNat W0 (-1) told p = TL) : ∃ g1, m_Md_clause 126 x1 g = some g1 ∧ PI V t L x1 R TL h g1 p := by
  have hm := K.m
  have hn := K.n
  have en : W0 0 0 0 = V 0 0 0 := s0 0 0 0 (by omega)
  have em : W0 0 1 0 = V 0 1 0 := s0 0 1 0 (by omega)
  have un : ∀ (g : HP) r i x p j, ¬ (p = r ∧ j = i) → upd2 g r i x p j = g p j := fun g r i x p j n => by
    unfold upd2
    rw [if_neg n]
  have tx : ∀ g, frQ h g → g 126 18 = L ∧ ∀ i, 0 ≤ i → i < L → g 140 i = t i := fun g f => by
    refine ⟨by rw [f 126 18 (by omega) (by omega)]; exact h18, fun i i0 i1 => ?_⟩
    rw [f 140 i (by omega) (by omega)]
    exact (ht i i0 i1).1
  have hh := M_here (g := g) hL.2 (tx g f0).1 h23 hp (tx g f0).2
  unfold m_Md_clause
  rw [hh]
  simp only [b1_some, bv_some]
  by_cases cd : p < L ∧ 0 ≤ t p - 48 ∧ t p - 48 < V 0 1 0
  · rw [if_pos cd.1, w32_id (by omega) (by omega), M_isOne M K0]
    simp only [b1_some, if10]
    rw [if_pos (by omega), h23, w32_id (by omega) (by omega)]
    rw [exT_s cd.1, if_pos ⟨rfl, cd.2⟩] at hR
    have hT' : x1 = 1 → tlT t (L - (p + 1)).toNat W0 (t p - 48) 0 (p + 1) = TL := fun q => by
      have := hT q
      rw [tlT_s cd.1, if_neg (by omega), if_pos rfl] at this
      exact this
    unfold m_Md_clause_L34
    have m0 : isM (upd2 g 126 23 (p + 1)) W0 := isM_sm ⟨fun j hj => un _ _ _ _ _ _ (by omega), fun p j a b => un _ _ _ _ _ _ (by omega)⟩ M
    refine loop_br (fun k (s : Int × HP) => s.1 = k ∧ ∃ W, isM s.2 W ∧ okVw W ∧ sm4 V W ∧ (x1 = 0 → W = V) ∧ frQ h s.2 ∧ (s.2 126 23 = p + 1 + k ∧ s.2 126 25 = w) ∧ p + 1 + k ≤ L ∧ R = exT V t L (L - (p + 1 + k)).toNat (w + 1) k (p + 1 + k) ∧ (x1 = 1 → tlT t (L - (p + 1 + k)).toNat W (t p - 48) k (p + 1 + k) = TL)) 0 (V 0 0 0) (fun g1 => PI V t L x1 R TL h g1 p) (by omega) (by omega) ⟨rfl, W0, m0, K0, s0, hW, fun q j n1 n2 => ?_, ⟨?_, ?_⟩, by omega, ?_, ?_⟩ (fun k s k0 k1 hS => ?_) (fun s hS => ?_)
    · (try dsimp only)
      rw [un _ _ _ _ _ _ (by omega)]
      exact f0 q j n1 n2
    · (try dsimp only)
      rw [upd2_eq, Int.add_zero]
    · (try dsimp only)
      rw [un _ _ _ _ _ _ (by omega)]
      exact h25
    · rw [Int.add_zero]
      exact hR
    · rw [Int.add_zero]
      exact hT'
    · obtain ⟨k', g1⟩ := s
      obtain ⟨z1, W, m1, K1, s1, w1, f1, ⟨a23, a25⟩, pl, r1, t1⟩ := hS
      (try dsimp only at z1 m1 f1 a23 a25 ⊢)
      subst z1
      have en1 : W 0 0 0 = V 0 0 0 := s1 0 0 0 (by omega)
      have em1 : W 0 1 0 = V 0 1 0 := s1 0 1 0 (by omega)
      have hh := M_here (g := g1) hL.2 (tx g1 f1).1 a23 (by omega) (tx g1 f1).2
      have e0 : g1 126 0 = V 0 0 0 := by rw [m1.n, en1]
      -- the clause's end
      have fin : ¬ (p + 1 + k' < L ∧ ltr (t (p + 1 + k'))) → ∃ g2, (b1 (m_Md_clause_J119 126 k' g1) (fun x => (some (.inr x) : Option ((Int × HP) ⊕ HP)))) = some (.inr g2) ∧ PI V t L x1 R TL h g2 p := fun nl => by
        unfold m_Md_clause_J119 m_Md_clause_J129
        have J : ∀ f, (f = if k' = 0 then (1 : Int) else 0) → ∃ g2, (b1 (bv (upd2 g1 126 24 f) (fun h1 => bv (upd2 h1 126 25 (w32 ((h1 126 25) + 1))) (fun h4 => some h4))) (fun x => (some (.inr x) : Option ((Int × HP) ⊕ HP)))) = some (.inr g2) ∧ PI V t L x1 R TL h g2 p := fun f hf => by
          simp only [bv_some, b1_some]
          refine ⟨_, rfl, W, p + 1 + k', w + 1, f, k', t p - 48, ?_, K1, s1, w1, fun q j n1 n2 => ?_, ⟨?_, ?_, ?_⟩, by omega, ?_⟩
          · exact isM_sm ⟨fun j hj => by rw [un _ _ _ _ _ _ (by omega), un _ _ _ _ _ _ (by omega)], fun p j a b => by rw [un _ _ _ _ _ _ (by omega), un _ _ _ _ _ _ (by omega)]⟩ m1
          · rw [un _ _ _ _ _ _ (by omega), un _ _ _ _ _ _ (by omega)]
            exact f1 q j n1 n2
          · rw [un _ _ _ _ _ _ (by omega), un _ _ _ _ _ _ (by omega)]
            exact a23
          · rw [un _ _ _ _ _ _ (by omega), upd2_eq]
          · rw [upd2_eq, un _ _ _ _ _ _ (by omega), a25, w32_id (by omega) (by omega)]
          · by_cases q : k' = 0
            · rw [if_pos q] at hf
              refine Or.inl ⟨hf, ?_⟩
              rw [r1]
              by_cases q2 : p + 1 + k' < L
              · rw [exT_s q2, if_neg (by omega), if_neg (fun z => nl ⟨q2, z.2.2⟩), if_neg (by omega)]
              · rw [exT_0 (by omega), if_pos (by omega)]
                omega
            · rw [if_neg q] at hf
              refine Or.inr ⟨hf, by omega, by omega, by omega, ?_, r1, t1⟩
              by_cases q2 : p + 1 + k' < L
              · exact Or.inr (Or.inr (fun z => nl ⟨q2, z⟩))
              · exact Or.inr (Or.inl (by omega))
        by_cases q : k' = 0
        · rw [if_pos q]
          exact J 1 (by rw [if_pos q])
        · rw [if_neg q]
          exact J 0 (by rw [if_neg q])
      -- one letter more
      have go : p + 1 + k' < L ∧ ltr (t (p + 1 + k')) → ∃ s, m_Md_clause_J68 126 x1 (t p - 48) k' g1 = some (.inl s) ∧ (s.1 = k' + 1 ∧ ∃ W, isM s.2 W ∧ okVw W ∧ sm4 V W ∧ (x1 = 0 → W = V) ∧ frQ h s.2 ∧ (s.2 126 23 = p + 1 + (k' + 1) ∧ s.2 126 25 = w) ∧ p + 1 + (k' + 1) ≤ L ∧ R = exT V t L (L - (p + 1 + (k' + 1))).toNat (w + 1) (k' + 1) (p + 1 + (k' + 1)) ∧ (x1 = 1 → tlT t (L - (p + 1 + (k' + 1))).toNat W (t p - 48) (k' + 1) (p + 1 + (k' + 1)) = TL)) := fun yl => by
        have yl2 : t (p + 1 + k') = 45 ∨ (97 ≤ t (p + 1 + k') ∧ t (p + 1 + k') ≤ 100) := yl.2
        have r2 : R = exT V t L (L - (p + 1 + (k' + 1))).toNat (w + 1) (k' + 1) (p + 1 + (k' + 1)) := by
          rw [r1, exT_s yl.1, if_neg (by omega), if_pos ⟨k0, k1, yl.2⟩, show p + 1 + k' + 1 = p + 1 + (k' + 1) by omega]
        rw [if_pos yl.1] at hh
        unfold m_Md_clause_J68 m_Md_clause_J102 m_Md_clause_J103
        rcases hx with hx | hx
        · rw [if_pos hx, a23, w32_id (by omega) (by omega), w32_id (by omega) (by omega)]
          refine ⟨_, rfl, rfl, W, ?_, K1, s1, w1, fun q j n1 n2 => ?_, ⟨?_, ?_⟩, by omega, r2, fun q => by omega⟩
          · exact isM_sm ⟨fun j hj => un _ _ _ _ _ _ (by omega), fun p j a b => un _ _ _ _ _ _ (by omega)⟩ m1
          · (try dsimp only)
            rw [un _ _ _ _ _ _ (by omega)]
            exact f1 q j n1 n2
          · (try dsimp only)
            rw [upd2_eq]
            omega
          · (try dsimp only)
            rw [un _ _ _ _ _ _ (by omega)]
            exact a25
        · have t2 := t1 hx
          rw [tlT_s yl.1, if_neg (by omega), if_neg (by omega), show p + 1 + k' + 1 = p + 1 + (k' + 1) by omega] at t2
          have fin2 : ∀ v, (v = if t (p + 1 + k') = 45 then -1 else t (p + 1 + k') - 97) → ∃ s : Int × HP, (if 0 ≤ 8 * (t p - 48) + k' ∧ 8 * (t p - 48) + k' < 64 then bv (upd2 g1 130 (8 * (t p - 48) + k') v) (fun h11 => bv (upd2 h11 126 23 (w32 ((h11 126 23) + 1))) (fun h8 => (some (.inl (w32 (k' + 1), h8)) : Option ((Int × HP) ⊕ HP)))) else none) = some (.inl s) ∧ (s.1 = k' + 1 ∧ ∃ W, isM s.2 W ∧ okVw W ∧ sm4 V W ∧ (x1 = 0 → W = V) ∧ frQ h s.2 ∧ (s.2 126 23 = p + 1 + (k' + 1) ∧ s.2 126 25 = w) ∧ p + 1 + (k' + 1) ≤ L ∧ R = exT V t L (L - (p + 1 + (k' + 1))).toNat (w + 1) (k' + 1) (p + 1 + (k' + 1)) ∧ (x1 = 1 → tlT t (L - (p + 1 + (k' + 1))).toNat W (t p - 48) (k' + 1) (p + 1 + (k' + 1)) = TL)) := fun v hv => by
            have hv3 : -1 ≤ v ∧ v ≤ 3 := by
              rw [hv]
              split <;> omega
            rw [← hv] at t2
            rw [if_pos (by omega)]
            simp only [bv_some]
            rw [un _ _ _ _ _ _ (by omega), a23, w32_id (by omega) (by omega), w32_id (by omega) (by omega)]
            have mm : isM (upd2 g1 130 (8 * (t p - 48) + k') v) (upV W 4 (t p - 48) k' v) := isM_put v (by unfold atM; omega) m1
            refine ⟨_, rfl, rfl, upV W 4 (t p - 48) k' v, ?_, okVw_put (by unfold rgV; omega) K1, s1.up _ _ _, fun q => by omega, fun q j n1 n2 => ?_, ⟨?_, ?_⟩, by omega, r2, fun _ => t2⟩
            · exact isM_sm ⟨fun j hj => un _ _ _ _ _ _ (by omega), fun p j a b => un _ _ _ _ _ _ (by omega)⟩ mm
            · (try dsimp only)
              rw [un _ _ _ _ _ _ (by omega), un _ _ _ _ _ _ (by omega)]
              exact f1 q j n1 n2
            · (try dsimp only)
              rw [upd2_eq]
              omega
            · (try dsimp only)
              rw [un _ _ _ _ _ _ (by omega), un _ _ _ _ _ _ (by omega)]
              exact a25
          rw [if_neg (by omega), hh]
          simp only [b1_some, Int.reduceAdd]
          rw [w32_id (x := 8 * (t p - 48)) (by omega) (by omega), w32_id (x := 8 * (t p - 48) + k') (by omega) (by omega)]
          by_cases q : t (p + 1 + k') = 45
          · rw [if_pos q]
            exact fin2 (-1) (by rw [if_pos q])
          · rw [if_neg q, w32_id (x := t (p + 1 + k') - 97) (by omega) (by omega)]
            exact fin2 _ (by rw [if_neg q])
      unfold m_Md_clause_L34b
      rw [e0, if_neg (by omega), hh]
      simp only [b1_some, P_in, if10]
      by_cases c1 : p + 1 + k' < L
      · rw [if_pos c1]
        by_cases c2 : t (p + 1 + k') = 45
        · rw [if_pos c2]
          exact Or.inl (go ⟨c1, Or.inl c2⟩)
        · rw [if_neg c2]
          by_cases c3 : 97 ≤ t (p + 1 + k') ∧ t (p + 1 + k') ≤ 100
          · rw [if_pos c3]
            exact Or.inl (go ⟨c1, Or.inr c3⟩)
          · rw [if_neg c3]
            exact Or.inr (fin (fun q => q.2.elim c2 c3))
      · rw [if_neg c1, if_neg (by omega), if_neg (by omega)]
        exact Or.inr (fin (fun q => c1 q.1))
    · obtain ⟨k', g1⟩ := s
      obtain ⟨z1, W, m1, K1, s1, w1, f1, ⟨a23, a25⟩, pl, r1, t1⟩ := hS
      (try dsimp only at z1 m1 f1 a23 a25 ⊢)
      subst z1
      have en1 : W 0 0 0 = V 0 0 0 := s1 0 0 0 (by omega)
      have e0 : g1 126 0 = V 0 0 0 := by rw [m1.n, en1]
      unfold m_Md_clause_L34b m_Md_clause_J119 m_Md_clause_J129
      rw [e0, if_pos (by omega), if_neg (by omega)]
      simp only [bv_some, b1_some]
      refine ⟨_, rfl, W, p + 1 + V 0 0 0, w + 1, 0, V 0 0 0, t p - 48, ?_, K1, s1, w1, fun q j n1 n2 => ?_, ⟨?_, ?_, ?_⟩, by omega, Or.inr ⟨rfl, by omega, by omega, by omega, Or.inl rfl, r1, t1⟩⟩
      · exact isM_sm ⟨fun j hj => by rw [un _ _ _ _ _ _ (by omega), un _ _ _ _ _ _ (by omega)], fun p j a b => by rw [un _ _ _ _ _ _ (by omega), un _ _ _ _ _ _ (by omega)]⟩ m1
      · rw [un _ _ _ _ _ _ (by omega), un _ _ _ _ _ _ (by omega)]
        exact f1 q j n1 n2
      · rw [un _ _ _ _ _ _ (by omega), un _ _ _ _ _ _ (by omega)]
        exact a23
      · rw [un _ _ _ _ _ _ (by omega), upd2_eq]
      · rw [upd2_eq, un _ _ _ _ _ _ (by omega), a25, w32_id (by omega) (by omega)]
  · have er : R = -10 - p := by
      rw [hR]
      by_cases q : p < L
      · rw [exT_s q, if_neg (fun z => cd ⟨q, z.2⟩), if_neg (by omega), if_neg (by omega)]
      · rw [exT_0 (by omega), if_pos (by omega)]
        omega
    have e43 : m_Md_isOne 126 (w32 ((if p < L then t p else -1) - 48)) g = some 0 := by
      rw [M_isOne M K0]
      by_cases q : p < L
      · have := ht p hp.1 q
        rw [if_pos q, w32_id (by omega) (by omega), if_neg (by omega)]
      · rw [if_neg q, w32_id (by omega) (by omega), if_neg (by omega)]
    rw [e43]
    simp only [b1_some, if_true]
    refine ⟨_, rfl, W0, p, w, 1, 0, 0, ?_, K0, s0, hW, fun q j n1 n2 => ?_, ⟨?_, ?_, ?_⟩, by omega, Or.inl ⟨rfl, er⟩⟩
    · exact isM_sm ⟨fun j hj => un _ _ _ _ _ _ (by omega), fun p j a b => un _ _ _ _ _ _ (by omega)⟩ M
    · rw [un _ _ _ _ _ _ (by omega)]
      exact f0 q j n1 n2
    · rw [un _ _ _ _ _ _ (by omega)]
      exact h23
    · rw [upd2_eq]
    · rw [un _ _ _ _ _ _ (by omega)]
      exact h25
theorem M_through {x1 : Int} (hx : x1 = 0 ∨ x1 = 1) (M : isM h V) (K : okVw V) (hL : 0 ≤ L ∧ L ≤ 60) (h18 : h 126 18 = L) (ht : ∀ i, 0 ≤ i → i < L → h 140 i = t i ∧ 0 ≤ t i ∧ t i ≤ 127) : ∃ g, m_Md_goesThrough 126 x1 h = some g ∧ ∃ W, isM g W ∧ okVw W ∧ sm4 V W ∧ (x1 = 0 → W = V) ∧ frQ h g ∧ ((g 126 24 = 1 ∧ exT V t L L.toNat 0 (-1) 0 = -10 - g 126 23 ∧ 0 ≤ g 126 23 ∧ g 126 23 ≤ L) ∨ (g 126 24 = 0 ∧ exT V t L L.toNat 0 (-1) 0 = g 126 25 ∧ (1 ≤ g 126 25 ∧ g 126 25 ≤ 4) ∧ (x1 = 1 → W = tlT t L.toNat V (-1) 0 0))) := by
  have hm := K.m
  have hn := K.n
  have un : ∀ (g : HP) r i x p j, ¬ (p = r ∧ j = i) → upd2 g r i x p j = g p j := fun g r i x p j n => by
    unfold upd2
    rw [if_neg n]
  have tx : ∀ g, frQ h g → g 126 18 = L ∧ ∀ i, 0 ≤ i → i < L → g 140 i = t i := fun g f => by
    refine ⟨by rw [f 126 18 (by omega) (by omega)]; exact h18, fun i i0 i1 => ?_⟩
    rw [f 140 i (by omega) (by omega)]
    exact (ht i i0 i1).1
  obtain ⟨R, eR⟩ : ∃ R, R = exT V t L L.toNat 0 (-1) 0 := ⟨_, rfl⟩
  obtain ⟨TL, eT⟩ : ∃ TL, TL = tlT t L.toNat V (-1) 0 0 := ⟨_, rfl⟩
  rw [← eR, ← eT]
  unfold m_Md_goesThrough
  simp only [bv_some]
  have fr0 : frQ h (upd2 (upd2 (upd2 h 126 23 0) 126 25 0) 126 24 0) := fun p j n1 n2 => by
    rw [un _ _ _ _ _ _ (by omega), un _ _ _ _ _ _ (by omega), un _ _ _ _ _ _ (by omega)]
  have m0 : isM (upd2 (upd2 (upd2 h 126 23 0) 126 25 0) 126 24 0) V := isM_sm ⟨fun j hj => fr0 _ _ (by omega) (by omega), fun p j a b => by rw [un _ _ _ _ _ _ (by omega), un _ _ _ _ _ _ (by omega), un _ _ _ _ _ _ (by omega)]⟩ M
  obtain ⟨g1, e1, P1⟩ := M_clause (p := 0) (w := 0) (told := 0) (R := R) (TL := TL) hx K hL h18 ht m0 K (fun f a b _ => rfl) (fun _ => rfl) fr0 (by rw [un _ _ _ _ _ _ (by omega), un _ _ _ _ _ _ (by omega), upd2_eq]) (by rw [un _ _ _ _ _ _ (by omega), upd2_eq]) (by omega) (by omega) (by rw [Int.sub_zero]; exact eR) (fun _ => by rw [Int.sub_zero]; exact eT.symm)
  rw [e1]
  simp only [b1_some]
  unfold m_Md_goesThrough_L20
  refine loopO_inv (fun g => PI V t L x1 R TL h g 0) (fun g => (61 - g 126 23).toNat) _ (fun g hI => ?_) FUEL g1 P1 ?_
  · obtain ⟨W, a, w, f, k, c, m1, K1, s1, w1, f1, ⟨a23, a24, a25⟩, al, alt⟩ := hI
    have hh := M_here (g := g) hL.2 (tx g f1).1 a23 (by omega) (tx g f1).2
    unfold m_Md_goesThrough_L20b m_Md_goesThrough_J55
    rw [a24, a23, a25, (tx g f1).1, hh]
    simp only [bv_some, b1_some]
    rcases alt with ⟨hf, hr⟩ | ⟨hf, hw, hk, hc, stop, hr, hT⟩
    · rw [if_neg (by omega)]
      exact Or.inr ⟨g, rfl, W, m1, K1, s1, w1, f1, Or.inl ⟨by rw [a24, hf], by rw [a23]; exact hr, by omega, by omega⟩⟩
    · rw [if_pos hf]
      by_cases q : L ≤ a
      · rw [if_pos q]
        rw [exT_0 (by omega), if_neg (by omega)] at hr
        refine Or.inr ⟨g, rfl, W, m1, K1, s1, w1, f1, Or.inr ⟨by rw [a24, hf], by rw [a25]; exact hr, by omega, fun z => ?_⟩⟩
        have := hT z
        rw [tlT_0 (by omega)] at this
        exact this
      · rw [if_neg q, if_pos (show a < L by omega)]
        have nst : ¬ (0 ≤ k ∧ k < V 0 0 0 ∧ ltr (t a)) := fun z => by
          rcases stop with s | s | s
          · omega
          · omega
          · exact s z.2.2
        rw [exT_s (by omega), if_neg (by omega), if_neg nst] at hr
        have bad : (w = 4 ∨ ¬ t a = 59) → R = -10 - a := fun z => by
          rw [if_neg (by omega)] at hr
          exact hr
        have out : (w = 4 ∨ ¬ t a = 59) → ∃ W, isM (upd2 g 126 24 1) W ∧ okVw W ∧ sm4 V W ∧ (x1 = 0 → W = V) ∧ frQ h (upd2 g 126 24 1) ∧ ((upd2 g 126 24 1 126 24 = 1 ∧ R = -10 - upd2 g 126 24 1 126 23 ∧ 0 ≤ upd2 g 126 24 1 126 23 ∧ upd2 g 126 24 1 126 23 ≤ L) ∨ (upd2 g 126 24 1 126 24 = 0 ∧ R = upd2 g 126 24 1 126 25 ∧ (1 ≤ upd2 g 126 24 1 126 25 ∧ upd2 g 126 24 1 126 25 ≤ 4) ∧ (x1 = 1 → W = TL))) := fun z => by
          have e23 : upd2 g 126 24 1 126 23 = a := by rw [un _ _ _ _ _ _ (by omega)]; exact a23
          refine ⟨W, isM_sm ⟨fun j hj => un _ _ _ _ _ _ (by omega), fun p j a b => un _ _ _ _ _ _ (by omega)⟩ m1, K1, s1, w1, fun p j n1 n2 => ?_, Or.inl ⟨upd2_eq _ _ _ _, by rw [e23]; exact bad z, by rw [e23]; omega, by rw [e23]; omega⟩⟩
          rw [un _ _ _ _ _ _ (by omega)]
          exact f1 p j n1 n2
        by_cases q4 : w = 4
        · rw [if_pos q4]
          exact Or.inr ⟨_, rfl, out (Or.inl q4)⟩
        · rw [if_neg q4]
          by_cases q5 : t a = 59
          · rw [if_pos q5, w32_id (by omega) (by omega)]
            rw [if_pos (by omega)] at hr
            have f2 : frQ h (upd2 g 126 23 (a + 1)) := fun p j n1 n2 => by
              rw [un _ _ _ _ _ _ (by omega)]
              exact f1 p j n1 n2
            have m2 : isM (upd2 g 126 23 (a + 1)) W := isM_sm ⟨fun j hj => un _ _ _ _ _ _ (by omega), fun p j a b => un _ _ _ _ _ _ (by omega)⟩ m1
            obtain ⟨g2, e2, P2⟩ := M_clause (p := a + 1) (w := w) (told := k) (R := R) (TL := TL) hx K hL h18 ht m2 K1 s1 w1 f2 (upd2_eq _ _ _ _) (by rw [un _ _ _ _ _ _ (by omega)]; exact a25) (by omega) (by omega) hr (fun z => by
              have := hT z
              rw [tlT_s (by omega), if_pos q5] at this
              exact this)
            rw [e2]
            obtain ⟨W', a', w', f', k', c', n1, n2, n3, n4, n5, ⟨n6, n7, n8⟩, n9, n10⟩ := P2
            refine Or.inl ⟨g2, rfl, ⟨W', a', w', f', k', c', n1, n2, n3, n4, n5, ⟨n6, n7, n8⟩, by omega, n10⟩, ?_⟩
            rw [n6]
            omega
          · rw [if_neg q5]
            exact Or.inr ⟨_, rfl, out (Or.inr q5)⟩
  · obtain ⟨W, a, w, f, k, c, m1, K1, s1, w1, f1, ⟨a23, a24, a25⟩, al, alt⟩ := P1
    (try dsimp only)
    rw [a23]
    unfold FUEL
    omega
end Rd
theorem A_read : AA (m_Cb_read 0) (m_Md_read 126) := by
  rintro h ⟨V, R⟩
  obtain ⟨X, M, K, I, T, P⟩ := id R
  obtain ⟨t0, t1, t2, t3⟩ := id T
  obtain ⟨L, eL⟩ : ∃ L, L = h 126 18 := ⟨_, rfl⟩
  obtain ⟨t, et⟩ : ∃ t : Int → Int, t = fun i => h 140 i := ⟨_, rfl⟩
  rw [← eL] at t0 t1 t2 t3
  have hx : ∀ i, 0 ≤ i → i < L → h 92 i = t i ∧ 0 ≤ t i ∧ t i ≤ 127 := fun i a b => by
    rw [et]
    exact t3 i a b
  have hex := X_examine X K ⟨t1, t2⟩ t0 hx
  -- one way or the other the exam's view goes to W
  have done : ∀ (g g2 : HP) (W : Vw) (r : Int), isX 1 g W → okVw W → (∀ p j, ¬ (1 ≤ p ∧ p ≤ 30) → g p j = h p j) → isM g2 W → frQ (upd2 g 91 0 0) g2 → Rel (upd2 g2 126 18 0) := fun g g2 W r Xg Kg fg Mg f2 => by
    have ff : ∀ p j, ¬ (1 ≤ p ∧ p ≤ 30) → ¬ (p = 91 ∧ j = 0) → ¬ (p = 126 ∧ (j = 18 ∨ (23 ≤ j ∧ j ≤ 25))) → ¬ (p = 130) → upd2 g2 126 18 0 p j = h p j := fun p j n1 n2 n3 n4 => by
      have e1 : upd2 g2 126 18 0 p j = g2 p j := by
        unfold upd2
        rw [if_neg (by omega)]
      have e2 : upd2 g 91 0 0 p j = g p j := by
        unfold upd2
        rw [if_neg n2]
      rw [e1, f2 p j (by omega) (by omega), e2]
      exact fg p j n1
    refine ⟨W, isX_cg (fun p j a b => ?_) Xg, isM_sm ⟨fun j hj => upd2_nj _ (by omega), fun p j a b => upd2_np _ (by omega)⟩ Mg, Kg, ?_, ⟨?_, ?_, ?_, ?_⟩, ?_⟩
    · rw [upd2_np _ (by omega), f2 p j (by omega) (by omega), upd2_np _ (by omega)]
    · exact imOK_cg (ff _ _ (by omega) (by omega) (by omega) (by omega)) (ff _ _ (by omega) (by omega) (by omega) (by omega)) (fun p j a b => ff _ _ (by omega) (by omega) (by omega) (by omega)) (fun j => ff _ _ (by omega) (by omega) (by omega) (by omega)) I
    · rw [upd2_np _ (by omega), f2 91 0 (by omega) (by omega), upd2_eq, upd2_eq]
    · rw [upd2_eq]
      omega
    · rw [upd2_eq]
      omega
    · rw [upd2_eq]
      intro i a b
      omega
    · exact tpOK_cg (fun p j a b => ff _ _ (by omega) (by omega) (by omega) (by omega)) (fun p j a b => ff _ _ (by omega) (by omega) (by omega) (by omega)) P
  have mt : ∀ (g : HP), (∀ p j, ¬ (1 ≤ p ∧ p ≤ 30) → g p j = h p j) → isM (upd2 g 91 0 0) V ∧ (upd2 g 91 0 0) 126 18 = L ∧ ∀ i, 0 ≤ i → i < L → (upd2 g 91 0 0) 140 i = t i ∧ 0 ≤ t i ∧ t i ≤ 127 := fun g fg => by
    refine ⟨isM_sm ⟨fun j hj => by rw [upd2_np _ (by omega)]; exact fg _ _ (by omega), fun p j a b => by rw [upd2_np _ (by omega)]; exact fg _ _ (by omega)⟩ M, ?_, fun i a b => ⟨?_, (hx i a b).2⟩⟩
    · rw [upd2_np _ (by omega), fg _ _ (by omega)]
      exact eL.symm
    · rw [upd2_np _ (by omega), fg _ _ (by omega), et]
  by_cases c : exT V t L L.toNat 0 (-1) 0 ≤ 0
  · obtain ⟨m1, m2, m3⟩ := mt h (fun p j _ => rfl)
    obtain ⟨g2, e2, W, n1, n2, n3, n4, n5, n6⟩ := M_through (x1 := 0) (Or.inl rfl) m1 K ⟨t1, t2⟩ m2 m3
    have hW := n4 rfl
    subst hW
    rcases n6 with ⟨q1, q2, q3, q4⟩ | ⟨q1, q2, q3, q4⟩
    · refine ⟨exT W t L L.toNat 0 (-1) 0, upd2 h 91 0 0, upd2 g2 126 18 0, ?_, ?_, done h g2 W 0 X K (fun p j _ => rfl) n1 n5⟩
      · unfold m_Cb_read m_Cb_read_J27 m_Text_empty
        simp only [Int.zero_add]
        rw [hex]
        simp only [b1_some, bv_some]
        rw [if_pos c]
      · unfold m_Md_read m_Md_read_J30
        rw [e2]
        simp only [b1_some, bv_some]
        rw [if_neg (by omega), w32_id (by omega) (by omega), q2]
    · omega
  · obtain ⟨g1, e1, x1, k1, s1, f1⟩ := X_tell X K ⟨t1, t2⟩ t0 hx (by omega)
    obtain ⟨m1, m2, m3⟩ := mt g1 f1
    obtain ⟨g2, e2, W, n1, n2, n3, n4, n5, n6⟩ := M_through (x1 := 0) (Or.inl rfl) m1 K ⟨t1, t2⟩ m2 m3
    have hW := n4 rfl
    subst hW
    rcases n6 with ⟨q1, q2, q3, q4⟩ | ⟨q1, q2, q3, q4⟩
    · omega
    · have m4 : g2 126 18 = L ∧ ∀ i, 0 ≤ i → i < L → g2 140 i = t i ∧ 0 ≤ t i ∧ t i ≤ 127 := by
        refine ⟨by rw [n5 126 18 (by omega) (by omega)]; exact m2, fun i a b => ?_⟩
        rw [n5 140 i (by omega) (by omega)]
        exact m3 i a b
      obtain ⟨g3, e3, W2, o1, o2, o3, o4, o5, o6⟩ := M_through (x1 := 1) (Or.inr rfl) n1 K ⟨t1, t2⟩ m4.1 m4.2
      rcases o6 with ⟨r1, r2, r3, r4⟩ | ⟨r1, r2, r3, r4⟩
      · omega
      · have hW2 := r4 rfl
        subst hW2
        refine ⟨exT W t L L.toNat 0 (-1) 0, upd2 g1 91 0 0, upd2 g3 126 18 0, ?_, ?_, done g1 g3 _ 0 x1 k1 f1 o1 (fun p j a b => by rw [o5 p j a b, n5 p j a b])⟩
        · unfold m_Cb_read m_Cb_read_J27 m_Text_empty
          simp only [Int.zero_add]
          rw [hex]
          simp only [b1_some, bv_some]
          rw [if_neg c, e1]
          rfl
        · unfold m_Md_read m_Md_read_J30
          rw [e2]
          simp only [b1_some, bv_some]
          rw [if_pos q1, e3]
          simp only [b1_some, bv_some]
          rw [r2]
