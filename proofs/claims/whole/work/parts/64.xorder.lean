/-! PURE: the class's ranking -/
def RC (V : Vw) (o s n : Int) (G : PG) (h : HP) : Prop := h o 0 = n ∧ ∀ j, 0 ≤ j → j < n → h (o + 1) j = (G j).1 ∧ h (o + 2) j = (G j).2 ∧ h (o + 3) j = rdA (qo V s (G j)) (qb V s (G j)) ∧ h (o + 4) j = rdB (qo V s (G j)) (qb V s (G j))
section XR
variable {o r e : Int} {h : HP} {V : Vw} {x y s : Int}
theorem X_weighPair (X : isX r h V) (K : okVw V) (hr : r + 29 < e) (ho : e + 2 < o) (hx : 0 ≤ x ∧ x < 8) (hy : 0 ≤ y ∧ y < 8) (hs : 0 ≤ s ∧ s ≤ 3) : ∃ h1, m_Ranking_weighPair o r e x y s h = some h1 ∧ h1 (o + 5) 0 = rdA (qo V s (x, y)) (qb V s (x, y)) ∧ h1 (o + 5) 1 = rdB (qo V s (x, y)) (qb V s (x, y)) ∧ ∀ p j, ¬ (e ≤ p ∧ p ≤ e + 2) → p ≠ o + 5 → p ≠ o + 6 → h1 p j = h p j := by
  obtain ⟨g0, g, e0, e1, r1⟩ := X_asGreat (o := e) (to := o + 5) X K hr hx hy hs
  have Xg : isX r g V := isX_cg (fun p j a b => r1.2.2 p j (by omega) (by omega)) X
  unfold m_Ranking_weighPair
  rw [e0]
  simp only [b1_some]
  rw [e1]
  simp only [b1_some]
  by_cases c : 1 < s
  · obtain ⟨g02, g2, e02, e2, r2⟩ := X_asGreat (o := e) (to := o + 6) Xg K hr hy hx hs
    have z0 : g2 (o + 5) 0 = rdA (ov V x y s (-1)) (bl V x y s (-1)) := by
      rw [r2.2.2 _ 0 (by omega) (by omega)]
      exact r1.1
    have z1 : g2 (o + 5) 1 = rdB (ov V x y s (-1)) (bl V x y s (-1)) := by
      rw [r2.2.2 _ 1 (by omega) (by omega)]
      exact r1.2.1
    have ea := X_against (o := o + 6) (r := o + 5) r2.1 r2.2.1 z0 z1 (ov_bd K) (bl_bd K) (ov_bd K) (bl_bd K)
    have fr : ∀ p j, ¬ (e ≤ p ∧ p ≤ e + 2) → p ≠ o + 5 → p ≠ o + 6 → g2 p j = h p j := fun p j n1 n2 n3 => by
      rw [r2.2.2 p j n1 n3, r1.2.2 p j n1 n2]
    have J : ∃ h1, m_Ranking_weighPair_J31 o r e x y s g = some h1 ∧ h1 (o + 5) 0 = rdA (qo V s (x, y)) (qb V s (x, y)) ∧ h1 (o + 5) 1 = rdB (qo V s (x, y)) (qb V s (x, y)) ∧ ∀ p j, ¬ (e ≤ p ∧ p ≤ e + 2) → p ≠ o + 5 → p ≠ o + 6 → h1 p j = h p j := by
      unfold m_Ranking_weighPair_J31
      rw [e02]
      simp only [b1_some]
      rw [e2]
      simp only [b1_some]
      rw [ea]
      simp only [b1_some]
      unfold qo qb
      (try dsimp only)
      by_cases q : cmp4 (ov V y x s (-1)) (bl V y x s (-1)) (ov V x y s (-1)) (bl V x y s (-1)) < 0
      · rw [if_neg (by omega), if_pos ⟨c, q⟩, if_pos ⟨c, q⟩]
        unfold m_Ratio_copy
        simp only [b1_some, bv_some]
        refine ⟨_, rfl, ?_, ?_, fun p j n1 n2 n3 => ?_⟩
        · rw [upd2_nj _ (by omega), upd2_eq]
          exact r2.1
        · rw [upd2_eq, upd2_np _ (by omega)]
          exact r2.2.1
        · rw [upd2_np _ n2, upd2_np _ n2]
          exact fr p j n1 n2 n3
      · rw [if_pos (by omega), if_neg (fun w => q w.2), if_neg (fun w => q w.2)]
        exact ⟨_, rfl, z0, z1, fr⟩
    have : s = 2 ∨ s = 3 := by omega
    rcases this with rfl | rfl
    · rw [if_pos rfl]
      exact J
    · rw [if_neg (by omega), if_pos rfl]
      exact J
  · rw [if_neg (by omega), if_neg (by omega)]
    unfold qo qb
    rw [if_neg (fun w => c w.1), if_neg (fun w => c w.1)]
    exact ⟨_, rfl, r1.1, r1.2.1, fun p j n1 n2 n3 => r1.2.2 p j n1 n2⟩
/-- rows above at, moved on by one -/
def Sf (o at' n : Int) (h : HP) : HP := fun p j => if o + 1 ≤ p ∧ p ≤ o + 4 ∧ at' < j ∧ j ≤ n then h p (j - 1) else h p j
theorem X_insert (K : okVw V) {n : Int} {G : PG} (hn : 0 ≤ n ∧ n < 28) (hR : RC V o s n G h) (h0 : h (o + 5) 0 = rdA (qo V s (x, y)) (qb V s (x, y))) (h1 : h (o + 5) 1 = rdB (qo V s (x, y)) (qb V s (x, y))) : ∃ h1, m_Ranking_insert o x y h = some h1 ∧ RC V o s (n + 1) (insG V s (x, y) G n) h1 ∧ ∀ p j, ¬ (o ≤ p ∧ p ≤ o + 4) → h1 p j = h p j := by
  have hp := pos_p (V := V) (s := s) (p := (x, y)) (G := G) hn.1
  have hq := q_bd (s := s) K (x, y)
  have hr := rd_bd hq.1.1 (show 0 < qb V s (x, y) by omega)
  obtain ⟨c, hc⟩ : ∃ c, c = pos V s (x, y) G n := ⟨_, rfl⟩
  rw [← hc] at hp
  have hRn : h o 0 = n := hR.1
  unfold m_Ranking_insert m_Ranking_insert_L5
  rw [hRn]
  simp only [bv_some]
  have sfo : ∀ a p j, ¬ (o + 1 ≤ p ∧ p ≤ o + 4) → Sf o a n h p j = h p j := fun a p j q => by
    unfold Sf
    rw [if_neg (by omega)]
  have hJ : ∃ h1, m_Ranking_insert_J109 o x y c (Sf o c n h) = some h1 ∧ RC V o s (n + 1) (insG V s (x, y) G n) h1 ∧ ∀ p j, ¬ (o ≤ p ∧ p ≤ o + 4) → h1 p j = h p j := by
    unfold m_Ranking_insert_J109 m_Ratio_half
    simp only [if_true, if_pos (show 0 ≤ c ∧ c < 28 by omega), bv_some, b1_some, if_neg (show ¬ (1 : Int) = 0 by omega)]
    refine ⟨_, rfl, ⟨?_, fun j j0 j1 => ?_⟩, fun p j q => ?_⟩
    · rw [upd2_eq, upd2_np _ (by omega), upd2_np _ (by omega), upd2_np _ (by omega), upd2_np _ (by omega), sfo _ _ _ (by omega), hRn, w32_id (by omega) (by omega)]
    · have hG : (j < c → insG V s (x, y) G n j = G j) ∧ (j = c → insG V s (x, y) G n j = (x, y)) ∧ (c < j → insG V s (x, y) G n j = G (j - 1)) := by
        unfold insG
        rw [← hc]
        refine ⟨fun q => by rw [if_pos q], fun q => by rw [if_neg (by omega), if_pos q], fun q => by rw [if_neg (by omega), if_neg (by omega)]⟩
      have e50 : ∀ p i v q w k u l b, upd2 (upd2 (upd2 (Sf o c n h) (o + 1) p i) (o + 2) v q) (o + 3) w k (o + 5) u = Sf o c n h (o + 5) u ∧ upd2 (upd2 (Sf o c n h) (o + 1) p i) (o + 2) v q (o + 5) l = Sf o c n h (o + 5) l ∧ b = b := fun p i v q w k u l b => by
        refine ⟨?_, ?_, rfl⟩
        · rw [upd2_np _ (by omega), upd2_np _ (by omega), upd2_np _ (by omega)]
        · rw [upd2_np _ (by omega), upd2_np _ (by omega)]
      rcases Int.lt_trichotomy j c with q | q | q
      · rw [hG.1 q]
        have hj := hR.2 j j0 (by omega)
        refine ⟨?_, ?_, ?_, ?_⟩
        · rw [upd2_np _ (by omega), upd2_np _ (by omega), upd2_np _ (by omega), upd2_np _ (by omega), upd2_nj _ (by omega)]
          unfold Sf
          rw [if_neg (by omega)]
          exact hj.1
        · rw [upd2_np _ (by omega), upd2_np _ (by omega), upd2_np _ (by omega), upd2_nj _ (by omega), upd2_np _ (by omega)]
          unfold Sf
          rw [if_neg (by omega)]
          exact hj.2.1
        · rw [upd2_np _ (by omega), upd2_np _ (by omega), upd2_nj _ (by omega), upd2_np _ (by omega), upd2_np _ (by omega)]
          unfold Sf
          rw [if_neg (by omega)]
          exact hj.2.2.1
        · rw [upd2_np _ (by omega), upd2_nj _ (by omega), upd2_np _ (by omega), upd2_np _ (by omega), upd2_np _ (by omega)]
          unfold Sf
          rw [if_neg (by omega)]
          exact hj.2.2.2
      · rw [hG.2.1 q, q]
        refine ⟨?_, ?_, ?_, ?_⟩
        · rw [upd2_np _ (by omega), upd2_np _ (by omega), upd2_np _ (by omega), upd2_np _ (by omega), upd2_eq]
        · rw [upd2_np _ (by omega), upd2_np _ (by omega), upd2_np _ (by omega), upd2_eq]
        · rw [upd2_np _ (by omega), upd2_np _ (by omega), upd2_eq, upd2_np _ (by omega), upd2_np _ (by omega), sfo _ _ _ (by omega)]
          exact h0
        · rw [upd2_np _ (by omega), upd2_eq, upd2_np _ (by omega), upd2_np _ (by omega), upd2_np _ (by omega), sfo _ _ _ (by omega)]
          exact h1
      · rw [hG.2.2 q]
        have hj := hR.2 (j - 1) (by omega) (by omega)
        refine ⟨?_, ?_, ?_, ?_⟩
        · rw [upd2_np _ (by omega), upd2_np _ (by omega), upd2_np _ (by omega), upd2_np _ (by omega), upd2_nj _ (by omega)]
          unfold Sf
          rw [if_pos (by omega)]
          exact hj.1
        · rw [upd2_np _ (by omega), upd2_np _ (by omega), upd2_np _ (by omega), upd2_nj _ (by omega), upd2_np _ (by omega)]
          unfold Sf
          rw [if_pos (by omega)]
          exact hj.2.1
        · rw [upd2_np _ (by omega), upd2_np _ (by omega), upd2_nj _ (by omega), upd2_np _ (by omega), upd2_np _ (by omega)]
          unfold Sf
          rw [if_pos (by omega)]
          exact hj.2.2.1
        · rw [upd2_np _ (by omega), upd2_nj _ (by omega), upd2_np _ (by omega), upd2_np _ (by omega), upd2_np _ (by omega)]
          unfold Sf
          rw [if_pos (by omega)]
          exact hj.2.2.2
    · rw [upd2_np _ (by omega), upd2_np _ (by omega), upd2_np _ (by omega), upd2_np _ (by omega), upd2_np _ (by omega)]
      exact sfo _ _ _ (by omega)
  obtain ⟨h1', e1, q1⟩ := hJ
  refine ⟨h1', ?_, q1⟩
  have cmpE : ∀ a, 1 ≤ a → a ≤ n → m_Ratio_compare (rdA (qo V s (x, y)) (qb V s (x, y))) (rdB (qo V s (x, y)) (qb V s (x, y))) (Sf o a n h (o + 3) (a - 1)) (Sf o a n h (o + 4) (a - 1)) (Sf o a n h) = some (cq V s (x, y) (G (a - 1))) := fun a a0 a1 => by
    have hj := hR.2 (a - 1) (by omega) (by omega)
    have hq2 := q_bd (s := s) K (G (a - 1))
    have hr2 := rd_bd hq2.1.1 (show 0 < qb V s (G (a - 1)) by omega)
    have z3 : Sf o a n h (o + 3) (a - 1) = rdA (qo V s (G (a - 1))) (qb V s (G (a - 1))) := by
      unfold Sf
      rw [if_neg (by omega)]
      exact hj.2.2.1
    have z4 : Sf o a n h (o + 4) (a - 1) = rdB (qo V s (G (a - 1))) (qb V s (G (a - 1))) := by
      unfold Sf
      rw [if_neg (by omega)]
      exact hj.2.2.2
    rw [z3, z4, X_compare _ (by omega) (by omega) (by omega) (by omega), cmp_rd1 (by omega), cmp_rd2 (by omega)]
    rfl
  have hf0 : ∀ a, m_Ratio_half (o + 5) 0 (Sf o a n h) = some (rdA (qo V s (x, y)) (qb V s (x, y))) := fun a => by
    unfold m_Ratio_half
    rw [if_pos rfl, sfo _ _ _ (by omega), h0]
  have hf1 : ∀ a, m_Ratio_half (o + 5) 1 (Sf o a n h) = some (rdB (qo V s (x, y)) (qb V s (x, y))) := fun a => by
    unfold m_Ratio_half
    rw [if_neg (by omega), sfo _ _ _ (by omega), h1]
  refine loop_seq (fun d => (n - d, Sf o (n - d) n h)) 0 (n - c) (by omega) (by omega) ?_ (fun d d0 d1 => ?_) ?_
  · rw [Int.sub_zero]
    refine pr_eq ?_
    funext p j
    unfold Sf
    rw [if_neg (by omega)]
  · obtain ⟨a, ha⟩ : ∃ a, a = n - d := ⟨_, rfl⟩
    rw [show n - (d + 1) = a - 1 by omega, ← ha]
    have hl := hp.2.1 (a - 1) (by omega) (by omega)
    (try dsimp only)
    unfold m_Ranking_insert_L5b
    rw [if_neg (by omega), hf0, hf1, w32_id (x := a - 1) (by omega) (by omega)]
    simp only [b1_some, if_pos (show 0 ≤ a - 1 ∧ a - 1 < 28 by omega), if_pos (show 0 ≤ a ∧ a < 28 by omega)]
    rw [cmpE a (by omega) (by omega)]
    simp only [b1_some, bv_some]
    rw [if_neg (by omega), w32_id (by omega) (by omega), show a + -1 = a - 1 by omega]
    refine in_eq ?_
    funext p j
    unfold upd2 Sf
    ((try dsimp only); repeat' split) <;> first | rfl | (exfalso; omega) | (congr 1 <;> omega)
  · rw [show n - (n - c) = c by omega]
    (try dsimp only)
    unfold m_Ranking_insert_L5b
    by_cases q : c ≤ 0
    · rw [if_pos q, e1]
      rfl
    · have hl := hp.2.2.resolve_left (by omega)
      rw [if_neg q, hf0, hf1, w32_id (x := c - 1) (by omega) (by omega)]
      simp only [b1_some, if_pos (show 0 ≤ c - 1 ∧ c - 1 < 28 by omega)]
      rw [cmpE c (by omega) (by omega)]
      simp only [b1_some]
      rw [if_pos (by omega), e1]
      rfl
theorem X_near {k : Int} (X : isX r h V) (K : okVw V) (hx : 0 ≤ x ∧ x < 8) (hy : 0 ≤ y ∧ y < 8) : m_Exam_near r x y k h = some (if nearP V x y k then 1 else 0) := by
  have h1 := K.rp x hx.1 hx.2
  have h2 := K.rp y hy.1 hy.2
  unfold m_Exam_near
  rw [X_hasSeat X hx, X_hasSeat X hy]
  simp only [b1_some, if10]
  rw [if_pos hx, if_pos hy, X.rw hx.1 hx.2, X.rw hy.1 hy.2, X.pl hx.1 hx.2, X.pl hy.1 hy.2]
  rw [w32_id (x := V 5 x 0 - V 5 y 0) (by omega) (by omega), w32_id (x := V 6 x 0 - V 6 y 0) (by omega) (by omega), w32_id (x := -(V 5 x 0 - V 5 y 0)) (by omega) (by omega), w32_id (x := -(V 6 x 0 - V 6 y 0)) (by omega) (by omega)]
  simp only [bv_some]
  (repeat' split) <;> first | (exfalso; omega) | rfl
theorem X_inReach (X : isX r h V) (K : okVw V) (hx : 0 ≤ x ∧ x < 8) (hy : 0 ≤ y ∧ y < 8) : m_Exam_inReach r x y h = some (if rch V x y then 1 else 0) := by
  unfold m_Exam_inReach
  rw [X.us (by omega) (by omega), X_near X K hx hy]
  simp only [b1_some, if10]
  by_cases c : V 7 3 0 = 0
  · rw [if_pos c, if_pos (Or.inl c)]
  · rw [if_neg c]
    by_cases d : nearP V x y (V 7 3 0)
    · rw [if_pos d, if_pos (Or.inr d)]
    · rw [if_neg d, if_neg (fun q => q.elim c d)]
end XR
