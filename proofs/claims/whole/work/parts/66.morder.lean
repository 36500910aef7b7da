/-! PURE: the model's order -/
def RM (V : Vw) (s n : Int) (G : PG) (h : HP) : Prop := h 126 29 = n ∧ ∀ j, 0 ≤ j → j < n → h 144 j = (G j).1 ∧ h 145 j = (G j).2 ∧ h 146 j = qo V s (G j) ∧ h 147 j = qb V s (G j)
def frR (h h1 : HP) : Prop := ∀ p j, ¬ (142 ≤ p ∧ p ≤ 148) → ¬ (p = 126 ∧ (j = 28 ∨ j = 29)) → h1 p j = h p j
theorem frR.tr {h h1 h2 : HP} (a : frR h h1) (b : frR h1 h2) : frR h h2 := fun p j n m => (b p j n m).trans (a p j n m)
theorem frR.sm {h h1 : HP} (f : frR h h1) : sameM h h1 := ⟨fun j hj => f _ _ (by omega) (by omega), fun p j a b => f _ _ (by omega) (by omega)⟩
theorem frM.R {h h1 : HP} (f : frM h h1) : frR h h1 := fun p j n m => f p j (by omega)
theorem frR_frC {h h1 : HP} (f : frR h h1) : frC h h1 := fun p j n => by
  unfold scr at n
  exact f p j (by omega) (by omega)
theorem iAnd01 {a b : Int} (ha : b01 a) (hb : b01 b) : iAnd a b = if a = 1 ∧ b = 1 then 1 else 0 := by
  rcases ha with rfl | rfl <;> rcases hb with rfl | rfl <;> decide
theorem iOr01 {a b : Int} (ha : b01 a) (hb : b01 b) : iOr a b = if a = 1 ∨ b = 1 then 1 else 0 := by
  rcases ha with rfl | rfl <;> rcases hb with rfl | rfl <;> decide
section MO
variable {h : HP} {V : Vw} {x y s n : Int} {G : PG}
theorem M_puts (K : okVw V) (hn : 0 ≤ n ∧ n < 28) (hR : RM V s n G h) : ∃ h1, m_Md_puts 126 x y (qo V s (x, y)) (qb V s (x, y)) h = some h1 ∧ RM V s (n + 1) (insG V s (x, y) G n) h1 ∧ frR h h1 := by
  have hp := pos_p (V := V) (s := s) (p := (x, y)) (G := G) hn.1
  have hq := q_bd (s := s) K (x, y)
  obtain ⟨c, hc⟩ : ∃ c, c = pos V s (x, y) G n := ⟨_, rfl⟩
  rw [← hc] at hp
  have hRn : h 126 29 = n := hR.1
  unfold m_Md_puts m_Md_puts_L6
  rw [hRn]
  simp only [bv_some]
  have sfo : ∀ a p j, ¬ (144 ≤ p ∧ p ≤ 147) → Sf 143 a n h p j = h p j := fun a p j q => by
    unfold Sf
    rw [if_neg (by omega)]
  have hJ : ∃ h1, m_Md_puts_J108 126 x y (qo V s (x, y)) (qb V s (x, y)) c (Sf 143 c n h) = some h1 ∧ RM V s (n + 1) (insG V s (x, y) G n) h1 ∧ frR h h1 := by
    unfold m_Md_puts_J108
    simp only [if_pos (show 0 ≤ c ∧ c < 28 by omega), bv_some, Int.reduceAdd]
    refine ⟨_, rfl, ⟨?_, fun j j0 j1 => ?_⟩, fun p j q m => ?_⟩
    · rw [upd2_eq, upd2_np _ (by omega), upd2_np _ (by omega), upd2_np _ (by omega), upd2_np _ (by omega), sfo _ _ _ (by omega), hRn, w32_id (by omega) (by omega)]
    · have hG : (j < c → insG V s (x, y) G n j = G j) ∧ (j = c → insG V s (x, y) G n j = (x, y)) ∧ (c < j → insG V s (x, y) G n j = G (j - 1)) := by
        unfold insG
        rw [← hc]
        refine ⟨fun q => by rw [if_pos q], fun q => by rw [if_neg (by omega), if_pos q], fun q => by rw [if_neg (by omega), if_neg (by omega)]⟩
      rcases Int.lt_trichotomy j c with q | q | q
      · rw [hG.1 q]
        have hj := hR.2 j j0 (by omega)
        refine ⟨?_, ?_, ?_, ?_⟩
        · rw [upd2_np _ (by omega), upd2_np _ (by omega), upd2_np _ (by omega), upd2_np _ (by omega), upd2_nj _ (by omega)]
          unfold Sf
          rw [if_neg (by omega)]
          exact hj.1
        · rw [upd2_np _ (by omega), upd2_np _ (by omega), upd2_np _ (by omega), upd2_nj _ (by omega), upd2_np _ (by omega)]
          unfold Sf
          rw [if_neg (by omega)]
          exact hj.2.1
        · rw [upd2_np _ (by omega), upd2_np _ (by omega), upd2_nj _ (by omega), upd2_np _ (by omega), upd2_np _ (by omega)]
          unfold Sf
          rw [if_neg (by omega)]
          exact hj.2.2.1
        · rw [upd2_np _ (by omega), upd2_nj _ (by omega), upd2_np _ (by omega), upd2_np _ (by omega), upd2_np _ (by omega)]
          unfold Sf
          rw [if_neg (by omega)]
          exact hj.2.2.2
      · rw [hG.2.1 q, q]
        refine ⟨?_, ?_, ?_, ?_⟩
        · rw [upd2_np _ (by omega), upd2_np _ (by omega), upd2_np _ (by omega), upd2_np _ (by omega), upd2_eq]
        · rw [upd2_np _ (by omega), upd2_np _ (by omega), upd2_np _ (by omega), upd2_eq]
        · rw [upd2_np _ (by omega), upd2_np _ (by omega), upd2_eq]
        · rw [upd2_np _ (by omega), upd2_eq]
      · rw [hG.2.2 q]
        have hj := hR.2 (j - 1) (by omega) (by omega)
        refine ⟨?_, ?_, ?_, ?_⟩
        · rw [upd2_np _ (by omega), upd2_np _ (by omega), upd2_np _ (by omega), upd2_np _ (by omega), upd2_nj _ (by omega)]
          unfold Sf
          rw [if_pos (by omega)]
          exact hj.1
        · rw [upd2_np _ (by omega), upd2_np _ (by omega), upd2_np _ (by omega), upd2_nj _ (by omega), upd2_np _ (by omega)]
          unfold Sf
          rw [if_pos (by omega)]
          exact hj.2.1
        · rw [upd2_np _ (by omega), upd2_np _ (by omega), upd2_nj _ (by omega), upd2_np _ (by omega), upd2_np _ (by omega)]
          unfold Sf
          rw [if_pos (by omega)]
          exact hj.2.2.1
        · rw [upd2_np _ (by omega), upd2_nj _ (by omega), upd2_np _ (by omega), upd2_np _ (by omega), upd2_np _ (by omega)]
          unfold Sf
          rw [if_pos (by omega)]
          exact hj.2.2.2
    · rw [show upd2 (upd2 (upd2 (upd2 (upd2 (Sf 143 c n h) 144 c x) 145 c y) 146 c (qo V s (x, y))) 147 c (qb V s (x, y))) 126 29 _ p j = upd2 (upd2 (upd2 (upd2 (Sf 143 c n h) 144 c x) 145 c y) 146 c (qo V s (x, y))) 147 c (qb V s (x, y)) p j from by unfold upd2; rw [if_neg (by omega)], upd2_np _ (by omega), upd2_np _ (by omega), upd2_np _ (by omega), upd2_np _ (by omega)]
      exact sfo _ _ _ (by omega)
  obtain ⟨h1', e1, q1⟩ := hJ
  refine ⟨h1', ?_, q1⟩
  have cmpE : ∀ a, 1 ≤ a → a ≤ n → m_Md_compares (qo V s (x, y)) (qb V s (x, y)) (Sf 143 a n h 146 (a - 1)) (Sf 143 a n h 147 (a - 1)) (Sf 143 a n h) = some (cq V s (x, y) (G (a - 1))) := fun a a0 a1 => by
    have hj := hR.2 (a - 1) (by omega) (by omega)
    have hq2 := q_bd (s := s) K (G (a - 1))
    have z3 : Sf 143 a n h 146 (a - 1) = qo V s (G (a - 1)) := by
      unfold Sf
      rw [if_neg (by omega)]
      exact hj.2.2.1
    have z4 : Sf 143 a n h 147 (a - 1) = qb V s (G (a - 1)) := by
      unfold Sf
      rw [if_neg (by omega)]
      exact hj.2.2.2
    rw [z3, z4, M_compares _ hq.1 (by omega) hq2.1 (by omega)]
    rfl
  refine loop_seq (fun d => (n - d, Sf 143 (n - d) n h)) 0 (n - c) (by omega) (by omega) ?_ (fun d d0 d1 => ?_) ?_
  · rw [Int.sub_zero]
    refine pr_eq ?_
    funext p j
    unfold Sf
    rw [if_neg (by omega)]
  · obtain ⟨a, ha⟩ : ∃ a, a = n - d := ⟨_, rfl⟩
    rw [show n - (d + 1) = a - 1 by omega, ← ha]
    have hl := hp.2.1 (a - 1) (by omega) (by omega)
    (try dsimp only)
    unfold m_Md_puts_L6b
    rw [if_neg (by omega), w32_id (x := a - 1) (by omega) (by omega)]
    simp only [if_pos (show 0 ≤ a - 1 ∧ a - 1 < 28 by omega), if_pos (show 0 ≤ a ∧ a < 28 by omega), Int.reduceAdd]
    rw [cmpE a (by omega) (by omega)]
    simp only [b1_some, bv_some]
    rw [if_neg (by omega), w32_id (by omega) (by omega), show a + -1 = a - 1 by omega]
    refine in_eq ?_
    funext p j
    unfold upd2 Sf
    ((try dsimp only); repeat' split) <;> first | (exfalso; omega) | rfl | (congr 1 <;> omega)
  · rw [show n - (n - c) = c by omega]
    (try dsimp only)
    unfold m_Md_puts_L6b
    by_cases q : c ≤ 0
    · rw [if_pos q, e1]
      rfl
    · have hl := hp.2.2.resolve_left (by omega)
      rw [if_neg q, w32_id (x := c - 1) (by omega) (by omega)]
      simp only [if_pos (show 0 ≤ c - 1 ∧ c - 1 < 28 by omega), Int.reduceAdd]
      rw [cmpE c (by omega) (by omega)]
      simp only [b1_some]
      rw [if_pos (by omega), e1]
      rfl
theorem M_putsPair (M : isM h V) (K : okVw V) (hx : 0 ≤ x ∧ x < V 0 1 0) (hy : 0 ≤ y ∧ y < V 0 1 0) (hn : 0 ≤ n ∧ n < 28) (hR : RM V (V 7 0 0) n G h) : ∃ h1, m_Md_putsPair 126 x y h = some h1 ∧ RM V (V 7 0 0) (n + 1) (insG V (V 7 0 0) (x, y) G n) h1 ∧ frR h h1 := by
  have hu := K.us
  have Rf : ∀ g, frM h g → RM V (V 7 0 0) n G g := fun g f => by
    refine ⟨by rw [f 126 29 (by omega)]; exact hR.1, fun j j0 j1 => ?_⟩
    rw [f 144 j (by omega), f 145 j (by omega), f 146 j (by omega), f 147 j (by omega)]
    exact hR.2 j j0 j1
  unfold m_Md_putsPair m_Md_putsPair_J69
  simp only [Int.reduceAdd]
  rw [M.us (by omega) (by omega)]
  obtain ⟨g1, e1, q1, f1⟩ := M_asMuch (x := x) (y := y) (s := V 7 0 0) (but := -1) M K hx hy hu.1
  have M1 : isM g1 V := isM_sm f1.sm M
  rw [e1]
  simp only [b2_some, bv_some]
  rw [q1, M1.us (by omega) (by omega)]
  by_cases c : 1 < V 7 0 0
  · obtain ⟨g2, e2, q2, f2⟩ := M_asMuch (x := y) (y := x) (s := V 7 0 0) (but := -1) M1 K hy hx hu.1
    have hb := bl_bd (x := x) (y := y) (s := V 7 0 0) (but := -1) K
    have hb2 := bl_bd (x := y) (y := x) (s := V 7 0 0) (but := -1) K
    obtain ⟨g3, e3, q3, f3⟩ := M_puts (x := x) (y := y) K hn (Rf g2 (f1.tr f2))
    rw [if_neg (by omega), e2]
    simp only [b2_some]
    rw [q2, M_compares g2 (ov_bd K) ⟨by omega, by omega⟩ (ov_bd K) ⟨by omega, by omega⟩]
    simp only [b1_some]
    refine ⟨g3, ?_, q3, (f1.tr f2).R.tr f3⟩
    unfold qo qb at e3
    (try dsimp only at e3)
    by_cases q : cmp4 (ov V y x (V 7 0 0) (-1)) (bl V y x (V 7 0 0) (-1)) (ov V x y (V 7 0 0) (-1)) (bl V x y (V 7 0 0) (-1)) < 0
    · rw [if_pos ⟨c, q⟩, if_pos ⟨c, q⟩] at e3
      rw [if_neg (by omega), e3]
      rfl
    · rw [if_neg (fun w => q w.2), if_neg (fun w => q w.2)] at e3
      rw [if_pos (by omega), e3]
      rfl
  · obtain ⟨g3, e3, q3, f3⟩ := M_puts (x := x) (y := y) K hn (Rf g1 f1)
    refine ⟨g3, ?_, q3, f1.R.tr f3⟩
    unfold qo qb at e3
    rw [if_neg (fun w => c w.1), if_neg (fun w => c w.1)] at e3
    rw [if_pos (by omega), e3]
    rfl
theorem M_isNear {k : Int} (M : isM h V) (K : okVw V) (hx : 0 ≤ x ∧ x < V 0 1 0) (hy : 0 ≤ y ∧ y < V 0 1 0) : m_Md_isNear 126 x y k h = some (if nearP V x y k then 1 else 0) := by
  have hm := K.m
  have h1 := K.rp x hx.1 (by omega)
  have h2 := K.rp y hy.1 (by omega)
  unfold m_Md_isNear
  simp (disch := omega) only [Int.reduceAdd, if_pos (show 0 ≤ x ∧ x < 8 by omega), if_pos (show 0 ≤ y ∧ y < 8 by omega), M.rw, M.pl, w32_id, bv_some]
  (repeat' split) <;> first | rfl | (exfalso; omega)
theorem M_isLow (M : isM h V) (K : okVw V) (hR : RM V s n G h) (hn : n ≤ 28) {k t b : Int} (hk : 0 ≤ k ∧ k < n) (ht : 1 ≤ t ∧ t ≤ 28) (hb : 1 ≤ b ∧ b ≤ 28) : m_Md_isLow 126 k t b h = some (if low V s (G k) t b then 1 else 0) := by
  have hu := K.us
  have hj := hR.2 k hk.1 hk.2
  have hq2 := q_bd (s := s) K (G k)
  have m1 := Int.mul_le_mul (show V 7 2 0 ≤ 500 by omega) hb.2 (by omega) (by omega)
  have m2 := Int.mul_le_mul (show (1 : Int) ≤ V 7 2 0 by omega) hb.1 (by omega) (by omega)
  unfold m_Md_isLow
  simp only [Int.reduceAdd]
  rw [if_pos (by omega), if_pos (by omega), hj.2.2.1, hj.2.2.2, M.us (by omega) (by omega), w64_id (by omega) (by omega), w64_id (by omega) (by omega), M_compares h hq2.1 (by omega) (by omega) (by omega)]
  simp only [b1_some]
  by_cases c : cmp4 (qo V s (G k)) (qb V s (G k)) (V 7 2 0 * b) (1000 * t) ≤ 0
  · rw [if_neg (by omega), if_pos c]
  · rw [if_pos (by omega), if_neg c]
end MO
/-- the model's ranking when it is done -/
def MRk (V : Vw) (s : Int) (h : HP) : Prop := RM V s (Rk V s).1 (Rk V s).2 h ∧ ∀ j, 0 ≤ j → j < (Rk V s).1 → h 148 j = if j < Sc V s then 1 else 0
section MO2
variable {h : HP} {V : Vw}
/-- the pass over the marks -/
theorem M_marks (M : isM h V) (K : okVw V) (hR : RM V (V 7 0 0) (Rk V (V 7 0 0)).1 (Rk V (V 7 0 0)).2 h) : ∃ h1, m_Md_orders_L73 126 (1, 0, h) = some h1 ∧ MRk V (V 7 0 0) h1 ∧ frR h h1 := by
  have hu := K.us
  have hi := Rk_inv K (V 7 0 0)
  have hSc := Sc_bd K (V 7 0 0)
  have s01 := fun k => Sc_01 (k := k) K (V 7 0 0)
  have s2 := fun k => Sc_2 (k := k) K (V 7 0 0)
  have s3 := fun k => Sc_3 (k := k) K (V 7 0 0)
  unfold MRk
  obtain ⟨s, hs⟩ : ∃ s, s = V 7 0 0 := ⟨_, rfl⟩
  rw [← hs] at hR hi hSc s01 s2 s3 ⊢
  obtain ⟨n, hn⟩ : ∃ n, n = (Rk V s).1 := ⟨_, rfl⟩
  obtain ⟨G, hG⟩ : ∃ G, G = (Rk V s).2 := ⟨_, rfl⟩
  rw [← hn, ← hG] at hR s01 s2 s3 ⊢
  rw [← hn] at hSc hi
  obtain ⟨c, hc⟩ : ∃ c, c = Sc V s := ⟨_, rfl⟩
  rw [← hc] at hSc s01 s2 s3 ⊢
  have h0 : 0 ≤ n := by omega
  have Mg : ∀ g, (∀ p j, p ≠ 148 → g p j = h p j) → isM g V := fun g f => isM_sm ⟨fun j _ => f _ _ (by omega), fun p j a b => f _ _ (by omega)⟩ M
  have Rg : ∀ g, (∀ p j, p ≠ 148 → g p j = h p j) → RM V s n G g := fun g f => by
    refine ⟨by rw [f 126 29 (by omega)]; exact hR.1, fun j j0 j1 => ?_⟩
    rw [f 144 j (by omega), f 145 j (by omega), f 146 j (by omega), f 147 j (by omega)]
    exact hR.2 j j0 j1
  unfold m_Md_orders_L73
  refine loop_ex (fun k t => ((t.1 = 1 ∧ ∀ j, 0 ≤ j → j < k → low V s (G j) (n - j) 1) ∨ (t.1 = 0 ∧ ¬ ∀ j, 0 ≤ j → j < k → low V s (G j) (n - j) 1)) ∧ t.2.1 = k ∧ (V 7 1 0 ≠ 3 → ∀ j, 0 ≤ j → j < k → t.2.2 148 j = if j < c then 1 else 0) ∧ ∀ p j, p ≠ 148 → t.2.2 p j = h p j) 0 n _ h0 (by omega) ⟨Or.inl ⟨rfl, fun j a b => by omega⟩, rfl, fun _ j a b => by omega, fun p j q => rfl⟩ (fun k t k0 k1 hS => ?_) (fun t hS => ?_)
  · obtain ⟨is, k', g⟩ := t
    obtain ⟨z1, z2, z3, z4⟩ := hS
    (try dsimp only at z1 z2 z3 z4 ⊢)
    subst z2
    have M1 := Mg g z4
    have R1 := Rg g z4
    have e29 : g 126 29 = n := R1.1
    have hb : b01 is := by
      rcases z1 with z | z
      · exact Or.inr z.1
      · exact Or.inl z.1
    obtain ⟨r, hr⟩ : ∃ r : Int, r = if low V s (G k') (n - k') 1 then 1 else 0 := ⟨_, rfl⟩
    have hrb : b01 r := by
      rw [hr]
      split
      · exact Or.inr rfl
      · exact Or.inl rfl
    obtain ⟨v, hv⟩ : ∃ v, v = iAnd is r := ⟨_, rfl⟩
    have hv1 : (v = 1 ∧ ∀ j, 0 ≤ j → j < k' + 1 → low V s (G j) (n - j) 1) ∨ (v = 0 ∧ ¬ ∀ j, 0 ≤ j → j < k' + 1 → low V s (G j) (n - j) 1) := by
      rw [hv, iAnd01 hb hrb]
      by_cases q : low V s (G k') (n - k') 1
      · rw [if_pos q] at hr
        rcases z1 with z | z
        · refine Or.inl ⟨by rw [if_pos ⟨z.1, hr⟩], fun j a b => ?_⟩
          by_cases e : j = k'
          · rw [e]; exact q
          · exact z.2 j a (by omega)
        · exact Or.inr ⟨by rw [if_neg (fun w => by have := z.1; omega)], fun w => z.2 (fun j a b => w j a (by omega))⟩
      · rw [if_neg q] at hr
        exact Or.inr ⟨by rw [if_neg (fun w => by omega)], fun w => q (w k' k0 (by omega))⟩
    have fin : ∀ u, (V 7 1 0 ≠ 3 → u = if k' < c then 1 else 0) → ∃ t, m_Md_orders_J144 126 v k' 148 k' u g = some (.inl t) ∧ ((t.1 = 1 ∧ ∀ j, 0 ≤ j → j < k' + 1 → low V s (G j) (n - j) 1) ∨ (t.1 = 0 ∧ ¬ ∀ j, 0 ≤ j → j < k' + 1 → low V s (G j) (n - j) 1)) ∧ t.2.1 = k' + 1 ∧ (V 7 1 0 ≠ 3 → ∀ j, 0 ≤ j → j < k' + 1 → t.2.2 148 j = if j < c then 1 else 0) ∧ ∀ p j, p ≠ 148 → t.2.2 p j = h p j := fun u hu2 => by
      unfold m_Md_orders_J144
      rw [if_pos (by omega), w32_id (by omega) (by omega)]
      refine ⟨_, rfl, hv1, rfl, fun q j a b => ?_, fun p j q => ?_⟩
      · (try dsimp only)
        by_cases e : j = k'
        · rw [e, upd2_eq]
          exact hu2 q
        · rw [upd2_nj _ e]
          exact z3 q j a (by omega)
      · (try dsimp only)
        rw [upd2_np _ q]
        exact z4 p j q
    unfold m_Md_orders_L73b
    simp only [Int.reduceAdd]
    rw [e29, if_neg (by omega), w32_id (x := n - k') (by omega) (by omega), M_isLow M1 K R1 hi.2 ⟨k0, k1⟩ (by omega) (by omega), ← hr]
    simp only [b1_some, bv_some]
    rw [← hv, M1.us (by omega) (by omega), M_isLow M1 K R1 hi.2 ⟨k0, k1⟩ (by omega) (by omega), M_isLow M1 K R1 hi.2 ⟨k0, k1⟩ (t := n) (by omega) (by omega)]
    simp only [b1_some]
    by_cases c0 : V 7 1 0 = 0
    · rw [if_pos c0]
      refine fin _ (fun _ => ?_)
      have h1 := s01 k' (Or.inl c0) ⟨k0, k1⟩
      unfold hold at h1
      rw [if_pos c0] at h1
      by_cases q : k' < c
      · rw [if_pos q, if_pos (h1.1 q)]
      · rw [if_neg q, if_neg (fun w => q (h1.2 w))]
    · rw [if_neg c0]
      by_cases c1 : V 7 1 0 = 1
      · rw [if_pos c1]
        refine fin _ (fun _ => ?_)
        have h1 := s01 k' (Or.inr c1) ⟨k0, k1⟩
        unfold hold at h1
        rw [if_neg c0, if_pos c1] at h1
        by_cases q : k' < c
        · rw [if_pos q, if_pos (h1.1 q)]
        · rw [if_neg q, if_neg (fun w => q (h1.2 w))]
      · rw [if_neg c1]
        refine fin _ (fun c3 => ?_)
        have c2 : V 7 1 0 = 2 := by omega
        have h1 := s2 k' c2 ⟨k0, k1⟩
        unfold hold at h1
        simp only [if_neg c0, if_neg c1, if_pos c2] at h1
        rcases hv1 with z | z
        · rw [z.1, if_pos (h1.2 (fun j a b => z.2 j a (by omega)))]
        · rw [z.1, if_neg (fun w => z.2 (fun j a b => h1.1 w j a (by omega)))]
  · obtain ⟨is, k', g⟩ := t
    obtain ⟨z1, z2, z3, z4⟩ := hS
    (try dsimp only at z1 z2 z3 z4 ⊢)
    subst z2
    have M1 := Mg g z4
    have R1 := Rg g z4
    have e29 : g 126 29 = k' := R1.1
    unfold m_Md_orders_L73b m_Md_orders_J151
    simp only [Int.reduceAdd]
    have e7 : g 133 1 = V 7 1 0 := M1.us (by omega) (by omega)
    rw [e29, if_pos (by omega)]
    by_cases c3 : V 7 1 0 = 3
    · rw [if_pos (by rw [e7]; exact c3), w32_id (by omega) (by omega)]
      simp only [bv_some]
      have lp : ∃ u, m_Md_orders_L170 126 (0, k' - 1, g) = some u ∧ (RM V s k' G u ∧ ∀ j, 0 ≤ j → j < k' → u 148 j = if j < c then 1 else 0) ∧ frR h u := by
        unfold m_Md_orders_L170
        refine loop_ex (fun d t => ((t.1 = 1 ∧ ∃ j, k' - d ≤ j ∧ j < k' ∧ low V s (G j) k' (j + 1)) ∨ (t.1 = 0 ∧ ¬ ∃ j, k' - d ≤ j ∧ j < k' ∧ low V s (G j) k' (j + 1))) ∧ t.2.1 = k' - 1 - d ∧ (∀ j, k' - d ≤ j → j < k' → t.2.2 148 j = if j < c then 1 else 0) ∧ ∀ p j, p ≠ 148 → t.2.2 p j = h p j) 0 k' _ h0 (by omega) ⟨Or.inr ⟨rfl, fun w => by obtain ⟨j, a, b, _⟩ := w; omega⟩, by (try dsimp only); omega, fun j a b => by omega, z4⟩ (fun d t d0 d1 hS => ?_) (fun t hS => ?_)
        · obtain ⟨is, k, g⟩ := t
          obtain ⟨w1, w2, w3, w4⟩ := hS
          (try dsimp only at w1 w2 w3 w4 ⊢)
          have M2 := Mg g w4
          have R2 := Rg g w4
          have e29 : g 126 29 = k' := R2.1
          have hb : b01 is := by
            rcases w1 with z | z
            · exact Or.inr z.1
            · exact Or.inl z.1
          obtain ⟨r, hr⟩ : ∃ r : Int, r = if low V s (G k) k' (k + 1) then 1 else 0 := ⟨_, rfl⟩
          have hrb : b01 r := by
            rw [hr]
            split
            · exact Or.inr rfl
            · exact Or.inl rfl
          obtain ⟨v, hv⟩ : ∃ v, v = iOr is r := ⟨_, rfl⟩
          have hv1 : (v = 1 ∧ ∃ j, k ≤ j ∧ j < k' ∧ low V s (G j) k' (j + 1)) ∨ (v = 0 ∧ ¬ ∃ j, k ≤ j ∧ j < k' ∧ low V s (G j) k' (j + 1)) := by
            rw [hv, iOr01 hb hrb]
            by_cases q : low V s (G k) k' (k + 1)
            · rw [if_pos q] at hr
              exact Or.inl ⟨by rw [if_pos (Or.inr hr)], k, by omega, by omega, q⟩
            · rw [if_neg q] at hr
              rcases w1 with z | z
              · obtain ⟨z5, j, a, b, l⟩ := z
                exact Or.inl ⟨by rw [if_pos (Or.inl z5)], j, by omega, b, l⟩
              · refine Or.inr ⟨by rw [if_neg (fun w => by have := z.1; omega)], fun w => ?_⟩
                obtain ⟨j, a, b, l⟩ := w
                by_cases e : j = k
                · rw [e] at l; exact q l
                · exact z.2 ⟨j, by omega, b, l⟩
          have h1 := s3 k c3 ⟨by omega, by omega⟩
          unfold hold at h1
          simp only [if_neg (show ¬ V 7 1 0 = 0 by omega), if_neg (show ¬ V 7 1 0 = 1 by omega), if_neg (show ¬ V 7 1 0 = 2 by omega)] at h1
          have hvv : v = if k < c then 1 else 0 := by
            rcases hv1 with z | z
            · rw [z.1, if_pos (h1.2 z.2)]
            · rw [z.1, if_neg (fun w => z.2 (h1.1 w))]
          unfold m_Md_orders_L170b
          simp only [Int.reduceAdd]
          rw [if_neg (by omega), e29, w32_id (x := k + 1) (by omega) (by omega), M_isLow M2 K R2 hi.2 (by omega) (by omega) (by omega), ← hr]
          simp only [b1_some, bv_some]
          rw [← hv, if_pos (by omega), w32_id (by omega) (by omega)]
          refine ⟨_, rfl, ?_, by (try dsimp only); omega, fun j a b => ?_, fun p j q => ?_⟩
          · (try dsimp only)
            rw [show k' - (d + 1) = k by omega]
            exact hv1
          · (try dsimp only)
            by_cases e : j = k
            · rw [e, upd2_eq]
              exact hvv
            · rw [upd2_nj _ e]
              exact w3 j (by omega) b
          · (try dsimp only)
            rw [upd2_np _ q]
            exact w4 p j q
        · obtain ⟨is, k, g⟩ := t
          obtain ⟨w1, w2, w3, w4⟩ := hS
          (try dsimp only at w1 w2 w3 w4 ⊢)
          unfold m_Md_orders_L170b
          rw [if_pos (by omega)]
          exact ⟨_, rfl, ⟨Rg g w4, fun j a b => w3 j (by omega) b⟩, fun p j a b => w4 p j (by omega)⟩
      obtain ⟨u, e, q⟩ := lp
      rw [e]
      exact ⟨u, rfl, q⟩
    · rw [if_neg (by rw [e7]; exact c3)]
      exact ⟨g, rfl, ⟨R1, z3 c3⟩, fun p j a b => z4 p j (by omega)⟩
theorem M_orders (M : isM h V) (K : okVw V) : ∃ h1, m_Md_orders 126 h = some h1 ∧ MRk V (V 7 0 0) h1 ∧ frR h h1 := by
  have hm := K.m
  have hu := K.us
  have hRk := Rk_inv K (V 7 0 0)
  unfold m_Md_orders m_Md_orders_L7
  simp only [bv_some]
  have Mg : ∀ g, frR h g → isM g V := fun g f => isM_sm f.sm M
  refine loop_ex (fun x t => t.1 = x ∧ RM V (V 7 0 0) (rkX V (V 7 0 0) x.toNat).1 (rkX V (V 7 0 0) x.toNat).2 t.2 ∧ frR h t.2) 0 (V 0 1 0) _ (by omega) (by omega) ⟨rfl, ⟨show upd2 h 126 29 0 126 29 = 0 from upd2_eq _ _ _ _, fun j a b => by have : (rkX V (V 7 0 0) (0 : Int).toNat).1 = 0 := rfl; omega⟩, fun p j n m => by
      (try dsimp only)
      unfold upd2
      rw [if_neg (by omega)]⟩ (fun x t x0 x1 hS => ?_) (fun t hS => ?_)
  · obtain ⟨x', g⟩ := t
    obtain ⟨q1, q2, q3⟩ := hS
    (try dsimp only at q1 q2 q3 ⊢)
    subst q1
    have hX := rkX_inv (V := V) (s := V 7 0 0) x'.toNat (by omega)
    have hT := triN_28 (m := V 0 1 0) (by omega) (k := x'.toNat + 1) (by omega)
    unfold m_Md_orders_L7b
    rw [(Mg g q3).m, if_neg (by omega), w32_id (by omega) (by omega)]
    simp only [bv_some]
    unfold m_Md_orders_L19
    have lp : ∃ u, loopO (fun t : Int × HP => m_Md_orders_L19b 126 x' t.1 t.2) FUEL (x' + 1, g) = some u ∧ ∃ g', u = .inl (x' + 1, g') ∧ RM V (V 7 0 0) (rkX V (V 7 0 0) (x' + 1).toNat).1 (rkX V (V 7 0 0) (x' + 1).toNat).2 g' ∧ frR h g' := by
      refine loop_ex (fun y t => t.1 = y ∧ RM V (V 7 0 0) (rkY V (V 7 0 0) x' (rkX V (V 7 0 0) x'.toNat) (y - x' - 1).toNat).1 (rkY V (V 7 0 0) x' (rkX V (V 7 0 0) x'.toNat) (y - x' - 1).toNat).2 t.2 ∧ frR h t.2) (x' + 1) (V 0 1 0) _ (by omega) (by omega) ⟨rfl, by rw [show (x' + 1 - x' - 1).toNat = 0 by omega]; exact q2, q3⟩ (fun y t y0 y1 hS => ?_) (fun t hS => ?_)
      · obtain ⟨y', g1⟩ := t
        obtain ⟨w1, w2, w3⟩ := hS
        (try dsimp only at w1 w2 w3 ⊢)
        subst w1
        have hY := rkY_inv (V := V) (s := V 7 0 0) (x := x') (by omega) hX.1 (y' - x' - 1).toNat (by omega)
        have hT1 : triN (V 0 1 0) (x'.toNat + 1) = triN (V 0 1 0) x'.toNat + max (V 0 1 0 - 1 - x'.toNat) 0 := rfl
        have eY : rkY V (V 7 0 0) x' (rkX V (V 7 0 0) x'.toNat) (y' + 1 - x' - 1).toNat = rkS V (V 7 0 0) x' y' (rkY V (V 7 0 0) x' (rkX V (V 7 0 0) x'.toNat) (y' - x' - 1).toNat) := by
          rw [show (y' + 1 - x' - 1).toNat = (y' - x' - 1).toNat + 1 by omega]
          unfold rkY
          rw [show x' + 1 + ((y' - x' - 1).toNat : Int) = y' by omega]
          cases (y' - x' - 1).toNat <;> rfl
        rw [eY]
        generalize rkY V (V 7 0 0) x' (rkX V (V 7 0 0) x'.toNat) (y' - x' - 1).toNat = st at w2 hY ⊢
        obtain ⟨n, G⟩ := st
        (try dsimp only at w2 hY ⊢)
        have hn0 : 0 ≤ n := hY.1.1
        have M1 := Mg g1 w3
        unfold m_Md_orders_L19b m_Md_orders_J51
        simp only [Int.reduceAdd]
        rw [M1.m, if_neg (by omega), M1.us (by omega) (by omega), M_isNear M1 K (by omega) (by omega)]
        simp only [b1_some, if10]
        unfold rkS
        have J : rch V x' y' → ∃ t : Int × HP, (b1 (m_Md_putsPair 126 x' y' g1) fun h51 => (some (.inl (w32 (y' + 1), h51)) : Option ((Int × HP) ⊕ ((Int × HP) ⊕ HP)))) = some (.inl t) ∧ t.1 = y' + 1 ∧ RM V (V 7 0 0) (n + 1) (insG V (V 7 0 0) (x', y') G n) t.2 ∧ frR h t.2 := fun c => by
          obtain ⟨g2, d1, d2, d3⟩ := M_putsPair (x := x') (y := y') M1 K (by omega) (by omega) (show 0 ≤ n ∧ n < 28 by omega) w2
          rw [d1]
          simp only [b1_some]
          rw [w32_id (by omega) (by omega)]
          exact ⟨_, rfl, rfl, d2, w3.tr d3⟩
        by_cases c0 : V 7 3 0 = 0
        · rw [if_pos c0, if_pos (Or.inl c0)]
          exact J (Or.inl c0)
        · rw [if_neg c0]
          by_cases c : nearP V x' y' (V 7 3 0)
          · rw [if_pos c, if_pos (Or.inr c)]
            exact J (Or.inr c)
          · rw [if_neg c, if_neg (fun q => q.elim c0 c), w32_id (by omega) (by omega)]
            exact ⟨_, rfl, rfl, w2, w3⟩
      · obtain ⟨y', g1⟩ := t
        obtain ⟨w1, w2, w3⟩ := hS
        (try dsimp only at w1 w2 w3 ⊢)
        unfold m_Md_orders_L19b
        rw [(Mg g1 w3).m, w1, if_pos (by omega), w32_id (by omega) (by omega)]
        refine ⟨_, rfl, g1, rfl, ?_, w3⟩
        have eX : rkX V (V 7 0 0) (x' + 1).toNat = rkY V (V 7 0 0) x' (rkX V (V 7 0 0) x'.toNat) (V 0 1 0 - x' - 1).toNat := by
          rw [show (x' + 1).toNat = x'.toNat + 1 by omega]
          show rkY V (V 7 0 0) (x'.toNat : Int) (rkX V (V 7 0 0) x'.toNat) (V 0 1 0 - 1 - (x'.toNat : Int)).toNat = _
          rw [show ((x'.toNat : Nat) : Int) = x' by omega, show V 0 1 0 - 1 - x' = V 0 1 0 - x' - 1 by omega]
        rw [eX]
        exact w2
    obtain ⟨u, d1, g', d2, d3, d4⟩ := lp
    rw [d1, d2]
    exact ⟨_, rfl, rfl, d3, d4⟩
  · obtain ⟨x', g⟩ := t
    obtain ⟨q1, q2, q3⟩ := hS
    (try dsimp only at q1 q2 q3 ⊢)
    have M1 := Mg g q3
    obtain ⟨u, e, w1, w2⟩ := M_marks M1 K q2
    unfold m_Md_orders_L7b
    rw [M1.m, q1, if_pos (by omega), e]
    exact ⟨u, rfl, w1, q3.tr w2⟩
end MO2
