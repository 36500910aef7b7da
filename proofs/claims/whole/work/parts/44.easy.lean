/-! PURE: the calls that ask, without odds -/
theorem PPi {A B : Option Int} (e : A = B) (s : A.isSome = true) : ∃ a, A = some a ∧ B = some a := by
  subst e
  obtain ⟨a, h⟩ := Option.isSome_iff_exists.mp s
  exact ⟨a, h, h⟩
theorem A_answer (x y : Int) : PP (m_Cb_answer 0 x y) (m_Md_answer 126 x y) := by
  rintro h ⟨V, X, M, K, I, T, P⟩
  unfold m_Cb_answer m_Md_answer m_Cb_orNeither m_Md_told
  simp only [Int.reduceAdd, Int.zero_add, X_hasCandidate X, X_hasItem X, M_isOne M K, M_isItem M K, b1_some]
  have := K.n
  have := K.m
  by_cases h1 : 0 ≤ x ∧ x < V 0 1 0
  · by_cases h2 : 0 ≤ y ∧ y < V 0 0 0
    · have e1 := X.gv (c := x) (i := y) (by omega) (by omega) (by omega) (by omega)
      rw [show (1 : Int) + x + 13 = x + 14 by omega] at e1
      simp (disch := omega) only [if_pos, if_neg, w32_id, M.gv, e1, b1_some]
      refine PPi ?_ ?_ <;> split <;> rfl
    · simp [h1, h2]
  · simp [h1]
theorem A_taken (x y : Int) : PP (m_Cb_taken 0 x y) (m_Md_taken 126 x y) := by
  rintro h ⟨V, X, M, K, I, T, P⟩
  unfold m_Cb_taken m_Md_taken m_Cb_isOfSort
  simp only [Int.reduceAdd, Int.zero_add, X_hasItem X, M_isItem M K, b1_some]
  have := K.n
  by_cases h2 : 0 ≤ x ∧ x < V 0 0 0
  · have e1 := X.kd (i := x) (by omega) (by omega)
    have := K.kd x (by omega) (by omega)
    simp only [Int.reduceAdd] at e1
    simp (disch := omega) only [if_pos, if_neg, M.kd, e1, bv_some, b1_some]
    refine PPi ?_ ?_ <;> (repeat' split) <;> first | rfl | (exfalso; omega)
  · simp [h2]
theorem A_of (x y : Int) : PP (m_Cb_of 0 x y) (m_Md_of 126 x y) := by
  rintro h ⟨V, X, M, K, I, T, P⟩
  unfold m_Cb_of m_Md_of m_Cb_orNeither m_Md_told
  simp only [Int.reduceAdd, Int.zero_add, X_hasCandidate X, M_isOne M K, b1_some]
  have := K.n
  have := K.m
  by_cases h1 : 0 ≤ x ∧ x < V 0 1 0
  · have e1 := X.rw (c := x) (by omega) (by omega)
    have e2 := X.pl (c := x) (by omega) (by omega)
    have s1 : Sm (fun i => if V 4 x i = V 1 i 0 then 1 else 0) (V 0 0 0) = Sm (fun i => if 0 ≤ V 4 x i ∧ ((1 : Int) = 0 ∨ V 4 x i = V 1 i 0) then 1 else 0) (V 0 0 0) := Sm_congr (fun i a b => by
      have := K.ky i a (by omega)
      grind)
    have s0 : Sm (fun i => if 0 ≤ V 4 x i then 1 else 0) (V 0 0 0) = Sm (fun i => if 0 ≤ V 4 x i ∧ ((0 : Int) = 0 ∨ V 4 x i = V 1 i 0) then 1 else 0) (V 0 0 0) := Sm_congr (fun i a b => by grind)
    simp only [Int.reduceAdd] at e1 e2
    rw [X_answersOf X K (by omega), X_rightOnesOf X K (by omega), M_gave M K (by omega), M_gave M K (by omega), s0, s1]
    simp (disch := omega) only [if_pos, if_neg, M.rw, M.pl, e1, e2, b1_some]
    refine PPi ?_ ?_ <;> (repeat' split) <;> first | rfl | (exfalso; omega)
  · simp [h1]
theorem A_count (x : Int) (hx : inR x) : PP (m_Cb_count 0 x) (m_Md_count 126 x) := by
  rintro h ⟨V, X, M, K, I, T, P⟩
  unfold m_Cb_count m_Md_count
  unfold inR at hx
  simp only [Int.reduceAdd, Int.zero_add, X_seatedOnes X K, M_seatedOnes M K, X.n, X.m, X.s, X.p, M.n, M.m, M.s, M.p, b1_some, P_in, T.1]
  by_cases h1 : 6 ≤ x ∧ x ≤ 11
  · have e1 := X.us (c := x - 6) (by omega) (by omega)
    simp only [Int.reduceAdd] at e1
    simp (disch := omega) only [if_pos, if_neg, M.us, e1, w32_id, b1_some]
    refine PPi ?_ ?_ <;> (repeat' split) <;> first | rfl | (exfalso; omega)
  · simp only [h1, if_false, if_true]
    refine PPi ?_ ?_ <;> (repeat' split) <;> first | rfl | (exfalso; omega)
