/-! PURE: see -/
theorem A_see (x y v : Int) (hv : b01 v) : AA (m_Cb_see 0 x y v) (m_Md_see 126 x y v) := by
  rintro h ⟨V, R⟩
  obtain ⟨X, M, K, I, T, P⟩ := id R
  have hs := K.s
  unfold m_Cb_see m_Md_see m_Exam_sees
  simp only [Int.reduceAdd, Int.zero_add, X_hasTwo X, b1_some, bv_some]
  by_cases h0 : x = -1
  · subst h0
    refine ⟨0, upd2 h 1 2 0, upd2 (upd2 h 1 2 0) 126 15 0, by simp only [if_true], by simp only [if_true], upV V 0 2 0 0, isX_cg (fun p j a b => by rw [upd2_np _ (by omega)]) (isX_put (o := 1) 0 (by unfold atX; omega) X), isM_put 0 (by unfold atM; omega) (isM_up (by omega) M), ?_, (frN.tr (frN.u (by omega)) (frN.u (by omega))).rest I T P⟩
    have e : ∀ f a b, ¬ (f = 0 ∧ a = 2 ∧ b = 0) → upV V 0 2 0 0 f a b = V f a b := fun f a b n => by
      unfold upV
      rw [if_neg n]
    have e1 : upV V 0 2 0 0 0 2 0 = 0 := by simp [upV]
    unfold okVw at K ⊢
    rw [e1]
    simp (disch := omega) only [e]
    obtain ⟨x0, x1, x2, x3⟩ := K
    exact ⟨x0, x1, ⟨by omega, by omega⟩, x3⟩
  · by_cases h1 : (0 ≤ x ∧ x < V 0 1 0) ∧ (0 ≤ y ∧ y < V 0 1 0) ∧ x ≠ y
    · by_cases h2 : V 0 2 0 = 5
      · refine ⟨-4, h, h, ?_, ?_, V, R⟩
        · simp (disch := omega) only [if_neg h0, if_pos h1, if_neg, X.s, if_pos]
        · simp (disch := omega) only [if_neg h0, M_isTwo M K, b1_some, if_pos h1, if_neg, M.s, if_pos]
      · refine ⟨V 0 2 0 + 1, upd2 (upd2 (upd2 (upd2 h 25 (V 0 2 0) x) 26 (V 0 2 0) y) 27 (V 0 2 0) v) 1 2 (V 0 2 0 + 1), upd2 (upd2 (upd2 (upd2 (upd2 (upd2 (upd2 (upd2 h 25 (V 0 2 0) x) 26 (V 0 2 0) y) 27 (V 0 2 0) v) 1 2 (V 0 2 0 + 1)) 134 (V 0 2 0) x) 135 (V 0 2 0) y) 136 (V 0 2 0) v) 126 15 (V 0 2 0 + 1), ?_, ?_, upV (upV (upV (upV V 8 (V 0 2 0) 0 x) 9 (V 0 2 0) 0 y) 10 (V 0 2 0) 0 v) 0 2 0 (V 0 2 0 + 1), ?_, ?_, ?_, ?_⟩
        · simp (disch := omega) only [if_neg h0, if_pos h1, if_neg, X.s, if_pos, upd2_np, upd2_eq, w32_id, b2_some]
        · have M' : isM (upd2 (upd2 (upd2 (upd2 h 25 (V 0 2 0) x) 26 (V 0 2 0) y) 27 (V 0 2 0) v) 1 2 (V 0 2 0 + 1)) V := isM_up (by omega) (isM_up (by omega) (isM_up (by omega) (isM_up (by omega) M)))
          generalize upd2 (upd2 (upd2 (upd2 h 25 (V 0 2 0) x) 26 (V 0 2 0) y) 27 (V 0 2 0) v) 1 2 (V 0 2 0 + 1) = h at M' ⊢
          unfold m_Md_see_J71
          rcases hv with rfl | rfl
          · simp (disch := omega) only [if_neg h0, M_isTwo M' K, b1_some, if_pos h1, if_neg, M'.s, if_pos, upd2_np, upd2_eq, w32_id, bv_some, Int.reduceAdd, if_true]
          · simp (disch := omega) only [if_neg h0, M_isTwo M' K, b1_some, if_pos h1, if_neg, M'.s, if_pos, upd2_np, upd2_eq, w32_id, bv_some, Int.reduceAdd, if_true]
        · have X' : isX 1 (upd2 (upd2 (upd2 (upd2 h 25 (V 0 2 0) x) 26 (V 0 2 0) y) 27 (V 0 2 0) v) 1 2 (V 0 2 0 + 1)) (upV (upV (upV (upV V 8 (V 0 2 0) 0 x) 9 (V 0 2 0) 0 y) 10 (V 0 2 0) 0 v) 0 2 0 (V 0 2 0 + 1)) := isX_put (o := 1) _ (by unfold atX; omega) (isX_put (o := 1) _ (by unfold atX; omega) (isX_put (o := 1) _ (by unfold atX; omega) (isX_put (o := 1) _ (by unfold atX; omega) X)))
          refine isX_cg (fun p j a b => ?_) X'
          rw [upd2_np _ (by omega), upd2_np _ (by omega), upd2_np _ (by omega), upd2_np _ (by omega)]
        · exact isM_put _ (by unfold atM; omega) (isM_put _ (by unfold atM; omega) (isM_put _ (by unfold atM; omega) (isM_put _ (by unfold atM; omega) (isM_up (by omega) (isM_up (by omega) (isM_up (by omega) (isM_up (by omega) M)))))))
        · have e : ∀ f a b, ¬ (f = 0 ∧ a = 2 ∧ b = 0) → f ≠ 8 → f ≠ 9 → f ≠ 10 → upV (upV (upV (upV V 8 (V 0 2 0) 0 x) 9 (V 0 2 0) 0 y) 10 (V 0 2 0) 0 v) 0 2 0 (V 0 2 0 + 1) f a b = V f a b := fun f a b n n1 n2 n3 => by
            unfold upV
            rw [if_neg n, if_neg (by omega), if_neg (by omega), if_neg (by omega)]
          have e1 : upV (upV (upV (upV V 8 (V 0 2 0) 0 x) 9 (V 0 2 0) 0 y) 10 (V 0 2 0) 0 v) 0 2 0 (V 0 2 0 + 1) 0 2 0 = V 0 2 0 + 1 := by simp [upV]
          have e2 : ∀ k, upV (upV (upV (upV V 8 (V 0 2 0) 0 x) 9 (V 0 2 0) 0 y) 10 (V 0 2 0) 0 v) 0 2 0 (V 0 2 0 + 1) 10 k 0 = if k = V 0 2 0 then v else V 10 k 0 := fun k => by
            unfold upV
            by_cases c : k = V 0 2 0
            · rw [if_neg (by omega), if_pos (by omega), if_pos c]
            · rw [if_neg (by omega), if_neg (by omega), if_neg (by omega), if_neg (by omega), if_neg c]
          unfold okVw at K ⊢
          simp only [e1, e2]
          simp (disch := omega) only [e]
          obtain ⟨x0, x1, x2, x3, x4, x5, x6, x7, x8, x9, x10, x11, x12, x13, x14, x15, x16, x17⟩ := K
          refine ⟨x0, x1, ⟨by omega, by omega⟩, x3, x4, x5, x6, x7, x8, x9, x10, x11, x12, x13, x14, x15, x16, fun k a b => ?_⟩
          split
          · exact hv
          · exact x17 k a b
        · exact (frN.tr (frN.tr (frN.tr (frN.u (by omega)) (frN.u (by omega))) (frN.tr (frN.u (by omega)) (frN.u (by omega)))) (frN.tr (frN.tr (frN.u (by omega)) (frN.u (by omega))) (frN.tr (frN.u (by omega)) (frN.u (by omega))))).rest I T P
    · refine ⟨-1, h, h, ?_, ?_, V, R⟩
      · simp only [if_neg h0, if_neg h1, if_true]
      · simp only [if_neg h0, M_isTwo M K, b1_some, if_neg h1, if_true]
