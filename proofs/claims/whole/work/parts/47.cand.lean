/-! PURE: candidate, seat, see, plan -/
def Mc (m k : Int) (h : HP) : HP := fun p j => if p = 130 ∧ 8 * m ≤ j ∧ j < 8 * m + k then -1 else h p j
theorem A_candidate : AA (m_Cb_candidate 0) (m_Md_candidate 126) := by
  rintro h ⟨V, R⟩
  obtain ⟨X, M, K, I, T, P⟩ := id R
  have hm := K.m
  unfold m_Cb_candidate m_Md_candidate m_Exam_comes
  simp only [Int.reduceAdd, Int.zero_add, bv_some, b2_some, X.m]
  by_cases h1 : V 0 1 0 = 8
  · refine ⟨-4, h, h, ?_, ?_, V, R⟩
    · simp (disch := omega) only [if_pos]
    · rw [M.m]
      simp (disch := omega) only [if_pos]
  · refine ⟨V 0 1 0, upd2 h 1 1 (V 0 1 0 + 1), upd2 (upd2 (upd2 (Mc (V 0 1 0) 8 (upd2 h 1 1 (V 0 1 0 + 1))) 131 (V 0 1 0) (-1)) 132 (V 0 1 0) (-1)) 126 1 (V 0 1 0 + 1), ?_, ?_, upV V 0 1 0 (V 0 1 0 + 1), ?_, ?_, ?_, frN.rest (h := h) ?_ I T P⟩
    · simp (disch := omega) only [if_neg, w32_id, upd2_eq, Int.add_sub_cancel]
    · have M' : isM (upd2 h 1 1 (V 0 1 0 + 1)) V := isM_up (by omega) M
      generalize upd2 h 1 1 (V 0 1 0 + 1) = h at M' ⊢
      simp (disch := omega) only [M'.m, if_neg]
      unfold m_Md_candidate_L14
      have em : ∀ k, Mc (V 0 1 0) k h 126 1 = V 0 1 0 := fun k => by
        unfold Mc
        rw [if_neg (by omega), M'.m]
      refine loop_seq (fun k => (k, Mc (V 0 1 0) k h)) 0 8 (by omega) (by omega) ?_ (fun k h0 h1 => ?_) ?_
      · refine pr_eq ?_
        funext p j
        unfold Mc
        rw [if_neg (by omega)]
      · dsimp only
        unfold m_Md_candidate_L14b
        simp (disch := omega) only [em, if_pos, if_neg, bv_some, w32_id, Int.reduceAdd]
        refine in_eq ?_
        funext p j
        unfold Mc upd2
        ((try dsimp only); repeat' split) <;> first | rfl | (exfalso; omega)
      · dsimp only
        unfold m_Md_candidate_L14b m_Md_candidate_J41
        simp (disch := omega) only [em, if_pos, if_neg, bv_some, w32_id, Int.reduceAdd, upd2_np, upd2_eq, b1_some, Int.add_sub_cancel]
    · refine isX_cg (fun p j a b => ?_) (isX_put (V 0 1 0 + 1) (o := 1) (p := 1) (j := 1) (f := 0) (a := 1) (b := 0) (by unfold atX; omega) X)
      rw [upd2_np _ (by omega), upd2_np _ (by omega), upd2_np _ (by omega)]
      unfold Mc
      rw [if_neg (by omega)]
    · have e1 : upV V 0 1 0 (V 0 1 0 + 1) 0 1 0 = V 0 1 0 + 1 := by
        unfold upV
        simp
      have e2 : ∀ f a b, ¬ (f = 0 ∧ a = 1 ∧ b = 0) → upV V 0 1 0 (V 0 1 0 + 1) f a b = V f a b := fun f a b n => by
        unfold upV
        rw [if_neg n]
      have e3 : ∀ p j, 126 ≤ p → p ≠ 130 → ¬ (p = 131 ∧ j = V 0 1 0) → ¬ (p = 132 ∧ j = V 0 1 0) → ¬ (p = 126 ∧ j = 1) → upd2 (upd2 (upd2 (Mc (V 0 1 0) 8 (upd2 h 1 1 (V 0 1 0 + 1))) 131 (V 0 1 0) (-1)) 132 (V 0 1 0) (-1)) 126 1 (V 0 1 0 + 1) p j = h p j := fun p j a b c d e => by
        unfold Mc upd2
        ((try dsimp only); repeat' split) <;> first | rfl | (exfalso; omega)
      unfold isM at M ⊢
      rw [e1]
      obtain ⟨x0, x1, x2, x3, x4, x5, x6, x7, x8, x9, x10, x11, x12⟩ := M
      refine ⟨?_, ?_, ?_, ?_, fun i a b => ?_, fun i a b => ?_, fun i j a b c d => ?_, fun i j a b c d => ?_, fun i a b => ?_, fun i a b => ?_, fun i a b => ?_, fun i a b => ?_, fun i a b => ?_⟩
      · rw [e3 _ _ (by omega) (by omega) (by omega) (by omega) (by omega), e2 _ _ _ (by omega)]; exact x0
      · exact upd2_eq _ _ _ _
      · rw [e3 _ _ (by omega) (by omega) (by omega) (by omega) (by omega), e2 _ _ _ (by omega)]; exact x2
      · rw [e3 _ _ (by omega) (by omega) (by omega) (by omega) (by omega), e2 _ _ _ (by omega)]; exact x3
      · rw [e3 _ _ (by omega) (by omega) (by omega) (by omega) (by omega), e2 _ _ _ (by omega)]; exact x4 i a b
      · rw [e3 _ _ (by omega) (by omega) (by omega) (by omega) (by omega), e2 _ _ _ (by omega)]; exact x5 i a b
      · rw [e3 _ _ (by omega) (by omega) (by omega) (by omega) (by omega), e2 _ _ _ (by omega)]; exact x6 i j a b c d
      · rw [e2 _ _ _ (by omega), upd2_np _ (by omega), upd2_np _ (by omega), upd2_np _ (by omega)]
        unfold Mc
        by_cases q : i = V 0 1 0
        · rw [if_pos (by omega), q, (K.no _ j (by omega)).1]
        · rw [if_neg (by omega), upd2_np _ (by omega)]
          exact x7 i j a (by omega) c d
      · rw [e2 _ _ _ (by omega)]
        by_cases q : i = V 0 1 0
        · rw [upd2_np _ (by omega), upd2_np _ (by omega), q, upd2_eq, (K.no _ 0 (by omega)).2.1]
        · rw [e3 _ _ (by omega) (by omega) (by omega) (by omega) (by omega)]
          exact x8 i a (by omega)
      · rw [e2 _ _ _ (by omega)]
        by_cases q : i = V 0 1 0
        · rw [upd2_np _ (by omega), q, upd2_eq, (K.no _ 0 (by omega)).2.2]
        · rw [e3 _ _ (by omega) (by omega) (by omega) (by omega) (by omega)]
          exact x9 i a (by omega)
      · rw [e3 _ _ (by omega) (by omega) (by omega) (by omega) (by omega), e2 _ _ _ (by omega)]; exact x10 i a b
      · rw [e3 _ _ (by omega) (by omega) (by omega) (by omega) (by omega), e3 _ _ (by omega) (by omega) (by omega) (by omega) (by omega), e3 _ _ (by omega) (by omega) (by omega) (by omega) (by omega), e2 _ _ _ (by omega), e2 _ _ _ (by omega), e2 _ _ _ (by omega)]; exact x11 i a b
      · rw [e3 _ _ (by omega) (by omega) (by omega) (by omega) (by omega), e3 _ _ (by omega) (by omega) (by omega) (by omega) (by omega), e3 _ _ (by omega) (by omega) (by omega) (by omega) (by omega), e2 _ _ _ (by omega), e2 _ _ _ (by omega), e2 _ _ _ (by omega)]; exact x12 i a b
    · have e1 : upV V 0 1 0 (V 0 1 0 + 1) 0 1 0 = V 0 1 0 + 1 := by
        unfold upV
        simp
      have e2 : ∀ f a b, ¬ (f = 0 ∧ a = 1 ∧ b = 0) → upV V 0 1 0 (V 0 1 0 + 1) f a b = V f a b := fun f a b n => by
        unfold upV
        rw [if_neg n]
      unfold okVw at K ⊢
      rw [e1]
      simp (disch := omega) only [e2]
      obtain ⟨x0, x1, x2, x3, x4, x5, x6, x7, x8, x9, x10, x11, x12, x13, x14, x15, x16, x17⟩ := K
      exact ⟨x0, ⟨by omega, by omega⟩, x2, x3, x4, x5, x6, x7, x8, x9, x10, x11, x12, x13, x14, fun c i q => x15 c i (by omega), fun k a b => by
        have := x16 k a b
        omega, x17⟩
    · intro p j a b c d
      unfold scr at a
      unfold Mc upd2
      ((try dsimp only); repeat' split) <;> first | rfl | (exfalso; omega)
