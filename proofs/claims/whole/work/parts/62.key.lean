/-! PURE: just, source, without, key -/
theorem A_just (x y s k p : Int) : AA (m_Cb_just 0 x y s k p) (m_Md_just 126 x y s k p) := by
  rintro h ⟨V, R⟩
  obtain ⟨X, M, K, I, T, P⟩ := id R
  have hm := K.m
  have hn := K.n
  unfold m_Cb_just m_Md_just
  simp only [Int.zero_add, X_hasTwo X, P_isSup, P_isPart, b1_some, if10, P_in]
  by_cases c : two V x y ∧ (0 ≤ s ∧ s ≤ 3) ∧ (0 ≤ k ∧ k ≤ 32) ∧ (0 ≤ p ∧ p ≤ 1)
  · obtain ⟨g0, h1, e0, e1, r1⟩ := X_exactly (o := 94) (to := 97) (k := k) X K (by omega) (show 0 ≤ x ∧ x < 8 by omega) (show 0 ≤ y ∧ y < 8 by omega) c.2.1 (by omega)
    have R1 : Rl h1 V := Rl_fr (Rt_frC (by omega) r1) R
    obtain ⟨h2, e2, q2, f2⟩ := M_spreads (x := x) (y := y) (s := s) (but := -1) R1.2.1 K (by omega) (by omega) c.2.1
    have hw := Wy_bd (x := x) (y := y) (s := s) (but := -1) (n := V 0 0 0) K k (by omega)
    have hb := bl_bd (x := x) (y := y) (s := s) (but := -1) K
    have hw2 : Wy V x y s (-1) (V 0 0 0) k ≤ bl V x y s (-1) := hw.2
    have e28 : h2 126 28 = bl V x y s (-1) := q2.2
    refine ⟨if p = 0 then rdA (Wy V x y s (-1) (V 0 0 0) k) (bl V x y s (-1)) else rdB (Wy V x y s (-1) (V 0 0 0) k) (bl V x y s (-1)), h1, h2, ?_, ?_, V, Rl_fr (frM_frC f2) R1⟩
    · rw [if_pos c.1, if_pos c.2.1, if_neg (by omega), if_neg (by omega), if_pos c.2.2.2, e0]
      simp only [b1_some]
      rw [e1]
      simp only [b1_some]
      rw [P_half 97 p _ _ h1 r1.1 r1.2.1]
      rfl
    · simp only [M_isTwo R1.2.1 K, b1_some, if10]
      rw [if_pos c.1, if_pos c.2.1, if_pos c.2.2.1, if_pos c.2.2.2, e2]
      simp only [b1_some, Int.reduceAdd]
      rw [if_pos (by omega), e28, q2.1 k (by omega) (by omega), M_lowest p h2 ⟨hw.1, by omega⟩ ⟨by omega, by omega⟩]
      rfl
  · refine ⟨-9223372036854775808, h, h, ?_, ?_, V, R⟩
    · (repeat' split) <;> first | (exfalso; exact c ⟨‹_›, ‹_›, by omega, ‹_›⟩) | rfl
    · simp only [M_isTwo M K, b1_some, if10]
      (repeat' split) <;> first | (exfalso; exact c ⟨‹_›, ‹_›, ‹_›, ‹_›⟩) | rfl
theorem A_without (x y i p : Int) : AA (m_Cb_without 0 x y i p) (m_Md_without 126 x y i p) := by
  rintro h ⟨V, R⟩
  obtain ⟨X, M, K, I, T, P⟩ := id R
  have hm := K.m
  unfold m_Cb_without m_Md_without
  simp only [Int.zero_add, X_hasTwo X, X_hasItem X, P_isPart, b1_some, if10, P_in]
  by_cases c : two V x y ∧ (0 ≤ i ∧ i < V 0 0 0) ∧ (0 ≤ p ∧ p ≤ 1)
  · obtain ⟨g0, h1, e0, e1, r1⟩ := X_asGreatW (o := 94) (to := 97) (but := i) X K (by omega) (show 0 ≤ x ∧ x < 8 by omega) (show 0 ≤ y ∧ y < 8 by omega)
    have R1 : Rl h1 V := Rl_fr (Rt_frC (by omega) r1) R
    obtain ⟨h2, e2, q2, f2⟩ := M_asMuch (x := x) (y := y) (s := 0) (but := i) R1.2.1 K (by omega) (by omega) (by omega)
    have ho := ov_bd (x := x) (y := y) (s := 0) (but := i) K
    have hb := bl_bd (x := x) (y := y) (s := 0) (but := i) K
    refine ⟨if p = 0 then rdA (ov V x y 0 i) (bl V x y 0 i) else rdB (ov V x y 0 i) (bl V x y 0 i), h1, h2, ?_, ?_, V, Rl_fr (frM_frC f2) R1⟩
    · rw [if_pos c.1, if_pos c.2.1, if_pos c.2.2, e0]
      simp only [b1_some]
      rw [e1]
      simp only [b1_some]
      rw [P_half 97 p _ _ h1 r1.1 r1.2.1]
      rfl
    · simp only [M_isTwo R1.2.1 K, M_isItem R1.2.1 K, b1_some, if10]
      rw [if_pos c.1, if_pos c.2.1, if_pos c.2.2, e2]
      simp only [b2_some]
      rw [q2, M_lowest p h2 ho ⟨by omega, by omega⟩]
      rfl
  · refine ⟨-9223372036854775808, h, h, ?_, ?_, V, R⟩
    · (repeat' split) <;> first | (exfalso; exact c ⟨‹_›, ‹_›, ‹_›⟩) | rfl
    · simp only [M_isTwo M K, M_isItem M K, b1_some, if10]
      (repeat' split) <;> first | (exfalso; exact c ⟨‹_›, ‹_›, ‹_›⟩) | rfl
/-- the class holds two fractions in lowest terms against each other -/
theorem X_against {o r a b c d : Int} {h : HP} (e0 : h o 0 = rdA a b) (e1 : h o 1 = rdB a b) (e2 : h r 0 = rdA c d) (e3 : h r 1 = rdB c d) (ha : 0 ≤ a ∧ a < 9223372036854775808) (hb : 1 ≤ b ∧ b ≤ 184884258895036416) (hc : 0 ≤ c ∧ c < 9223372036854775808) (hd : 1 ≤ d ∧ d ≤ 184884258895036416) : m_Ratio_against o r h = some (cmp4 a b c d) := by
  have h1 := rd_bd ha.1 (show 0 < b by omega)
  have h2 := rd_bd hc.1 (show 0 < d by omega)
  unfold m_Ratio_against
  rw [e0, e1, e2, e3, X_compare h (by omega) (by omega) (by omega) (by omega), cmp_rd1 (by omega), cmp_rd2 (by omega)]
  rfl
theorem A_source (x y : Int) : AA (m_Cb_source 0 x y) (m_Md_source 126 x y) := by
  rintro h ⟨V, R⟩
  obtain ⟨X, M, K, I, T, P⟩ := id R
  have hm := K.m
  unfold m_Cb_source m_Md_source
  simp only [Int.zero_add, X_hasTwo X, b1_some, if10]
  by_cases c : two V x y
  · obtain ⟨g0, h1, e0, e1, r1⟩ := X_asGreat (s := 2) (o := 94) (to := 97) X K (by omega) (show 0 ≤ x ∧ x < 8 by omega) (show 0 ≤ y ∧ y < 8 by omega) (by omega)
    have R1 : Rl h1 V := Rl_fr (Rt_frC (by omega) r1) R
    obtain ⟨g2, h2, e02, e2, r2⟩ := X_asGreat (s := 2) (o := 94) (to := 98) R1.1 K (by omega) (show 0 ≤ y ∧ y < 8 by omega) (show 0 ≤ x ∧ x < 8 by omega) (by omega)
    have R2 : Rl h2 V := Rl_fr (Rt_frC (by omega) r2) R1
    obtain ⟨h3, e3, q3, f3⟩ := M_asMuch (x := x) (y := y) (s := 2) (but := -1) R2.2.1 K (by omega) (by omega) (by omega)
    have R3 : Rl h3 V := Rl_fr (frM_frC f3) R2
    obtain ⟨h4, e4, q4, f4⟩ := M_asMuch (x := y) (y := x) (s := 2) (but := -1) R3.2.1 K (by omega) (by omega) (by omega)
    have ho := ov_bd (x := x) (y := y) (s := 2) (but := -1) K
    have hb := bl_bd (x := x) (y := y) (s := 2) (but := -1) K
    have ho' := ov_bd (x := y) (y := x) (s := 2) (but := -1) K
    have hb' := bl_bd (x := y) (y := x) (s := 2) (but := -1) K
    have ea := X_against (o := 97) (r := 98) (h := h2) (a := ov V x y 2 (-1)) (b := bl V x y 2 (-1)) (c := ov V y x 2 (-1)) (d := bl V y x 2 (-1)) (by rw [r2.2.2 97 0 (by omega) (by omega)]; exact r1.1) (by rw [r2.2.2 97 1 (by omega) (by omega)]; exact r1.2.1) r2.1 r2.2.1 ho hb ho' hb'
    refine ⟨if cmp4 (ov V x y 2 (-1)) (bl V x y 2 (-1)) (ov V y x 2 (-1)) (bl V y x 2 (-1)) = 0 then -5 else if 0 ≤ cmp4 (ov V x y 2 (-1)) (bl V x y 2 (-1)) (ov V y x 2 (-1)) (bl V y x 2 (-1)) then y else x, h2, h4, ?_, ?_, V, Rl_fr (frM_frC f4) R3⟩
    · rw [if_pos c, e0]
      simp only [b1_some]
      rw [e1]
      simp only [b1_some]
      rw [e02]
      simp only [b1_some]
      rw [e2]
      simp only [b1_some]
      rw [ea]
      simp only [b1_some]
      (repeat' split) <;> rfl
    · simp only [M_isTwo R2.2.1 K, b1_some, if10]
      rw [if_pos c, e3]
      simp only [b2_some, bv_some]
      rw [e4]
      simp only [b2_some]
      rw [q3, q4, M_compares h4 ho ⟨by omega, by omega⟩ ho' ⟨by omega, by omega⟩]
      simp only [b1_some]
      (repeat' split) <;> rfl
  · refine ⟨-1, h, h, ?_, ?_, V, R⟩
    · rw [if_neg c]
    · simp only [M_isTwo M K, b1_some, if10]
      rw [if_neg c]
/-- the item that matters most of items 0 .. n -/
def kyN (V : Vw) (x y : Int) : Nat → Int
  | 0 => 0
  | m + 1 => if cmp4 (ov V x y 0 ((m : Int) + 1)) (bl V x y 0 ((m : Int) + 1)) (ov V x y 0 (kyN V x y m)) (bl V x y 0 (kyN V x y m)) ≤ 0 then kyN V x y m else (m : Int) + 1
def Ky (V : Vw) (x y n : Int) : Int := kyN V x y (n - 1).toNat
theorem Ky_s (V : Vw) (x y : Int) {n : Int} (hn : 1 ≤ n) : Ky V x y (n + 1) = if cmp4 (ov V x y 0 n) (bl V x y 0 n) (ov V x y 0 (Ky V x y n)) (bl V x y 0 (Ky V x y n)) ≤ 0 then Ky V x y n else n := by
  obtain ⟨k, rfl⟩ : ∃ k : Nat, n = (k : Int) + 1 := ⟨(n - 1).toNat, by omega⟩
  unfold Ky
  rw [show ((k : Int) + 1 + 1 - 1).toNat = k + 1 by omega, show ((k : Int) + 1 - 1).toNat = k by omega]
  rfl
theorem A_key (x y : Int) : AA (m_Cb_key 0 x y) (m_Md_key 126 x y) := by
  rintro h ⟨V, R⟩
  obtain ⟨X, M, K, I, T, P⟩ := id R
  have hm := K.m
  have hn := K.n
  have ho := fun i => ov_bd (x := x) (y := y) (s := 0) (but := i) K
  have hb := fun i => bl_bd (x := x) (y := y) (s := 0) (but := i) K
  unfold m_Cb_key m_Md_key
  simp only [Int.zero_add, X_hasTwo X, b1_some, if10]
  by_cases c : two V x y
  · obtain ⟨g0, h1, e0, e1, r1⟩ := X_asGreatW (o := 94) (to := 97) (but := 0) X K (by omega) (show 0 ≤ x ∧ x < 8 by omega) (show 0 ≤ y ∧ y < 8 by omega)
    have hl : ∃ r, m_Cb_key_L45 0 x y (0, 1, h1) = some r ∧ (r.1 = Ky V x y (V 0 0 0) ∧ frC h r.2) := by
      unfold m_Cb_key_L45
      refine loop_ex (fun n t => t.1 = Ky V x y n ∧ t.2.1 = n ∧ frC h t.2.2 ∧ t.2.2 97 0 = rdA (ov V x y 0 (Ky V x y n)) (bl V x y 0 (Ky V x y n)) ∧ t.2.2 97 1 = rdB (ov V x y 0 (Ky V x y n)) (bl V x y 0 (Ky V x y n))) 1 (V 0 0 0) _ (by omega) (by omega) ⟨rfl, rfl, Rt_frC (by omega) r1, r1.1, r1.2.1⟩ (fun n t n0 n1 hS => ?_) (fun t hS => ?_)
      · obtain ⟨t1, n', g⟩ := t
        obtain ⟨q1, q2, q3, q4, q5⟩ := hS
        (try dsimp only at q1 q2 q3 q4 q5 ⊢)
        subst q1 q2
        have Xg : isX 1 g V := isX_fr q3 (Or.inl rfl) X
        obtain ⟨g0', g1, d0, d1, s1⟩ := X_asGreatW (o := 94) (to := 98) (but := n') Xg K (by omega) (show 0 ≤ x ∧ x < 8 by omega) (show 0 ≤ y ∧ y < 8 by omega)
        have fg1 : frC h g1 := q3.tr (Rt_frC (by omega) s1)
        have z0 : g1 97 0 = rdA (ov V x y 0 (Ky V x y n')) (bl V x y 0 (Ky V x y n')) := by
          rw [s1.2.2 97 0 (by omega) (by omega)]
          exact q4
        have z1 : g1 97 1 = rdB (ov V x y 0 (Ky V x y n')) (bl V x y 0 (Ky V x y n')) := by
          rw [s1.2.2 97 1 (by omega) (by omega)]
          exact q5
        unfold m_Cb_key_L45b
        simp only [Int.zero_add, Int.reduceAdd]
        rw [Xg.n, if_neg (by omega), d0]
        simp only [b1_some]
        rw [d1]
        simp only [b1_some]
        rw [X_against (o := 98) (r := 97) s1.1 s1.2.1 z0 z1 (ho _) (hb _) (ho _) (hb _)]
        simp only [b1_some]
        have eK := Ky_s V x y n0
        rw [w32_id (by omega) (by omega)]
        by_cases q : cmp4 (ov V x y 0 n') (bl V x y 0 n') (ov V x y 0 (Ky V x y n')) (bl V x y 0 (Ky V x y n')) ≤ 0
        · rw [if_pos q] at eK ⊢
          exact ⟨_, rfl, eK.symm, rfl, fg1, by rw [eK]; exact z0, by rw [eK]; exact z1⟩
        · rw [if_neg q] at eK ⊢
          unfold m_Ratio_copy
          simp only [b1_some, bv_some]
          refine ⟨_, rfl, eK.symm, rfl, fun p j nn => ?_, ?_, ?_⟩
          · unfold upd2
            (try dsimp only)
            unfold scr at nn
            rw [if_neg (by omega), if_neg (by omega)]
            exact fg1 p j (by unfold scr; omega)
          · rw [eK]
            (try dsimp only)
            rw [upd2_nj _ (by omega), upd2_eq]
            exact s1.1
          · rw [eK]
            (try dsimp only)
            rw [upd2_eq, upd2_np _ (by omega)]
            exact s1.2.1
      · obtain ⟨t1, n', g⟩ := t
        obtain ⟨q1, q2, q3, q4, q5⟩ := hS
        (try dsimp only at q1 q2 q3 q4 q5 ⊢)
        have Xg : isX 1 g V := isX_fr q3 (Or.inl rfl) X
        unfold m_Cb_key_L45b
        simp only [Int.zero_add]
        rw [Xg.n, q2, if_pos (by omega)]
        exact ⟨_, rfl, q1, q3⟩
    obtain ⟨⟨a, h2⟩, d2, w1, w2⟩ := hl
    (try dsimp only at w1 w2)
    have R2 : Rl h2 V := Rl_fr w2 R
    obtain ⟨h3, e3, q3, f3⟩ := M_asMuch (x := x) (y := y) (s := 0) (but := 0) R2.2.1 K (by omega) (by omega) (by omega)
    have hl : ∃ r, m_Md_key_L32 126 x y (0, ov V x y 0 0, bl V x y 0 0, 1, h3) = some r ∧ (r.1 = Ky V x y (V 0 0 0) ∧ frC h2 r.2) := by
      unfold m_Md_key_L32
      refine loop_ex (fun n t => t.1 = Ky V x y n ∧ t.2.1 = ov V x y 0 (Ky V x y n) ∧ t.2.2.1 = bl V x y 0 (Ky V x y n) ∧ t.2.2.2.1 = n ∧ frC h2 t.2.2.2.2) 1 (V 0 0 0) _ (by omega) (by omega) ⟨rfl, rfl, rfl, rfl, frM_frC f3⟩ (fun n t n0 n1 hS => ?_) (fun t hS => ?_)
      · obtain ⟨t1, t2, t3, n', g⟩ := t
        obtain ⟨q1, q2, q4, q5, q6⟩ := hS
        (try dsimp only at q1 q2 q4 q5 q6 ⊢)
        subst q5
        have Mg : isM g V := isM_sm q6.sm R2.2.1
        obtain ⟨g1, d1, s1, s2⟩ := M_asMuch (x := x) (y := y) (s := 0) (but := n') Mg K (by omega) (by omega) (by omega)
        have fg1 : frC h2 g1 := q6.tr (frM_frC s2)
        unfold m_Md_key_L32b
        rw [Mg.n, if_neg (by omega), d1]
        simp only [b2_some]
        rw [s1, q1, q2, q4, M_compares g1 (ho _) (by have := hb n'; omega) (ho _) (by have := hb (Ky V x y n'); omega)]
        simp only [b1_some, bv_some]
        have eK := Ky_s V x y n0
        rw [w32_id (by omega) (by omega)]
        by_cases q : cmp4 (ov V x y 0 n') (bl V x y 0 n') (ov V x y 0 (Ky V x y n')) (bl V x y 0 (Ky V x y n')) ≤ 0
        · rw [if_pos q] at eK ⊢
          rw [eK]
          exact ⟨_, rfl, rfl, rfl, rfl, rfl, fg1⟩
        · rw [if_neg q] at eK ⊢
          rw [eK]
          exact ⟨_, rfl, rfl, rfl, rfl, rfl, fg1⟩
      · obtain ⟨t1, t2, t3, n', g⟩ := t
        obtain ⟨q1, q2, q4, q5, q6⟩ := hS
        (try dsimp only at q1 q2 q4 q5 q6 ⊢)
        have Mg : isM g V := isM_sm q6.sm R2.2.1
        unfold m_Md_key_L32b
        rw [Mg.n, q5, if_pos (by omega)]
        exact ⟨_, rfl, q1, q6⟩
    obtain ⟨⟨a', h4⟩, d4, w3, w4⟩ := hl
    (try dsimp only at w3 w4)
    refine ⟨Ky V x y (V 0 0 0), h2, h4, ?_, ?_, V, Rl_fr w4 R2⟩
    · rw [if_pos c, e0]
      simp only [b1_some]
      rw [e1]
      simp only [b1_some]
      rw [d2, w1]
    · simp only [M_isTwo R2.2.1 K, b1_some, if10]
      rw [if_pos c, e3]
      simp only [b2_some, bv_some]
      rw [q3, d4, w3]
  · refine ⟨-1, h, h, ?_, ?_, V, R⟩
    · rw [if_neg c]
    · simp only [M_isTwo M K, b1_some, if10]
      rw [if_neg c]
