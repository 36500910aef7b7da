/-! PURE: plan -/
def cpV (V : Vw) (w k v : Int) : Prop := (w = 0 ∧ 0 ≤ k ∧ k < V 0 1 0) ∨ ((w = 1 ∨ w = 2) ∧ 0 ≤ k ∧ k < V 0 0 0) ∨ (w = 3 ∧ (0 ≤ k ∧ k < V 0 1 0) ∧ (0 ≤ v ∧ v < V 0 1 0) ∧ k ≠ v)
theorem X_canPlanY {o : Int} {h : HP} {V : Vw} (X : isX o h V) {w k v : Int} (c : cpV V w k v) : m_Exam_canPlan o w k v h = some 1 := by
  unfold cpV at c
  unfold m_Exam_canPlan m_Exam_canPlan_J38
  simp only [X_hasCandidate X, X_hasItem X, X_hasTwo X, b1_some]
  (repeat' split) <;> first | rfl | (exfalso; omega)
theorem X_canPlanN {o : Int} {h : HP} {V : Vw} (X : isX o h V) {w k v : Int} (c : ¬ cpV V w k v) : m_Exam_canPlan o w k v h = some 0 := by
  unfold cpV at c
  unfold m_Exam_canPlan m_Exam_canPlan_J38
  simp only [X_hasCandidate X, X_hasItem X, X_hasTwo X, b1_some]
  (repeat' split) <;> first | rfl | (exfalso; omega)
theorem A_plan (x y v : Int) : AA (m_Cb_plan 0 x y v) (m_Md_plan 126 x y v) := by
  rintro h ⟨V, R⟩
  obtain ⟨X, M, K, I, T, P⟩ := id R
  have hs := K.p
  have mY : ∀ g, isM g V → x ≠ -1 → cpV V x y v → m_Md_plan 126 x y v g = m_Md_plan_J66 126 x y v g := fun g M n c => by
    unfold cpV at c
    unfold m_Md_plan
    simp only [P_in, M_isOne M K, M_isItem M K, M_isTwo M K, b1_some]
    (repeat' split) <;> first | rfl | (exfalso; omega)
  have mN : x ≠ -1 → ¬ cpV V x y v → m_Md_plan 126 x y v h = some (-1, h) := fun n c => by
    unfold cpV at c
    unfold m_Md_plan
    simp only [P_in, M_isOne M K, M_isItem M K, M_isTwo M K, b1_some]
    (repeat' split) <;> first | rfl | (exfalso; omega)
  unfold m_Cb_plan
  simp only [Int.reduceAdd, Int.zero_add]
  by_cases h0 : x = -1
  · subst h0
    unfold m_Md_plan
    refine ⟨0, upd2 h 1 3 0, upd2 (upd2 h 1 3 0) 126 16 0, by simp only [if_true, bv_some], by simp only [if_true, bv_some], upV V 0 3 0 0, isX_cg (fun p j a b => by rw [upd2_np _ (by omega)]) (isX_put (o := 1) 0 (by unfold atX; omega) X), isM_put 0 (by unfold atM; omega) (isM_up (by omega) M), ?_, (frN.tr (frN.u (by omega)) (frN.u (by omega))).rest I T P⟩
    have e : ∀ f a b, ¬ (f = 0 ∧ a = 3 ∧ b = 0) → upV V 0 3 0 0 f a b = V f a b := fun f a b n => by
      unfold upV
      rw [if_neg n]
    have e1 : upV V 0 3 0 0 0 3 0 = 0 := by simp [upV]
    unfold okVw at K ⊢
    rw [e1]
    simp (disch := omega) only [e]
    obtain ⟨x0, x1, x2, x3, x4, x5, x6, x7, x8, x9, x10, x11, x12, x13, x14, x15, x16, x17⟩ := K
    exact ⟨x0, x1, x2, ⟨by omega, by omega⟩, x4, x5, x6, x7, x8, x9, x10, x11, x12, x13, x14, x15, fun k a b => absurd b (by omega), x17⟩
  · by_cases h1 : cpV V x y v
    · rw [X_canPlanY X h1]
      unfold m_Cb_plan_J42 m_Cb_isAnswer m_Cb_isKind
      by_cases h3 : (x = 1 ∨ x = 2) ∧ ¬ (0 ≤ v ∧ v ≤ 3)
      · refine ⟨-2, h, h, ?_, ?_, V, R⟩
        · simp only [b1_some]
          (repeat' split) <;> first | rfl | (exfalso; omega) | ((simp only [b1_some]; (repeat' split)) <;> first | rfl | (exfalso; omega))
        · rw [mY h M h0 h1]
          unfold m_Md_plan_J66 m_Md_plan_J76
          simp only [P_in, b1_some]
          (repeat' split) <;> first | rfl | (exfalso; omega)
      · have c2 : ∀ g : HP, (if x = 1 then b1 (if v < 0 then some (0 : Int) else if 4 ≤ v then some 0 else some 1) (fun r23 => if r23 = 0 then some (-2, g) else if x = 2 then b1 (if v < 0 then some (0 : Int) else if 3 < v then some 0 else some 1) (fun r12 => if r12 = 0 then some (-2, g) else m_Cb_plan_J57 0 x y v g) else m_Cb_plan_J57 0 x y v g) else if x = 2 then b1 (if v < 0 then some (0 : Int) else if 3 < v then some 0 else some 1) (fun r12 => if r12 = 0 then some (-2, g) else m_Cb_plan_J57 0 x y v g) else m_Cb_plan_J57 0 x y v g) = m_Cb_plan_J57 0 x y v g := fun g => by
          by_cases q1 : x = 1
          · simp (disch := omega) only [if_pos q1, if_neg, b1_some]
          · by_cases q2 : x = 2
            · simp (disch := omega) only [if_neg q1, if_pos q2, if_neg, b1_some]
            · simp only [if_neg q1, if_neg q2]
        have mJ : ∀ g, m_Md_plan_J66 126 x y v g = m_Md_plan_J91 126 x y v g := fun g => by
          unfold m_Md_plan_J66 m_Md_plan_J76
          simp only [P_in, b1_some]
          (repeat' split) <;> first | rfl | (exfalso; omega)
        have cJ : ∀ g, (if x = -1 then bv (upd2 h 1 3 0) fun h26 => some ((0 : Int), h26) else b1 (some (1 : Int)) fun r18 => if r18 = 0 then some (-1, h) else g) = g := fun g => by
          simp (disch := omega) only [if_neg h0, b1_some, if_neg]
        rw [cJ, c2]
        unfold m_Cb_plan_J57 m_Exam_plans
        simp only [Int.reduceAdd, Int.zero_add]
        by_cases h2 : V 0 3 0 = 8
        · refine ⟨-4, h, h, ?_, ?_, V, R⟩
          · simp (disch := omega) only [X.p, if_pos]
          · rw [mY h M h0 h1, mJ]
            unfold m_Md_plan_J91
            simp (disch := omega) only [M.p, if_pos]
        · refine ⟨V 0 3 0 + 1, upd2 (upd2 (upd2 (upd2 h 28 (V 0 3 0) x) 29 (V 0 3 0) y) 30 (V 0 3 0) v) 1 3 (V 0 3 0 + 1), upd2 (upd2 (upd2 (upd2 (upd2 (upd2 (upd2 (upd2 h 28 (V 0 3 0) x) 29 (V 0 3 0) y) 30 (V 0 3 0) v) 1 3 (V 0 3 0 + 1)) 137 (V 0 3 0) x) 138 (V 0 3 0) y) 139 (V 0 3 0) v) 126 16 (V 0 3 0 + 1), ?_, ?_, upV (upV (upV (upV V 11 (V 0 3 0) 0 x) 12 (V 0 3 0) 0 y) 13 (V 0 3 0) 0 v) 0 3 0 (V 0 3 0 + 1), ?_, ?_, ?_, ?_⟩
          · simp (disch := omega) only [if_neg, X.p, if_pos, upd2_np, upd2_eq, w32_id, b2_some, bv_some]
          · have M' : isM (upd2 (upd2 (upd2 (upd2 h 28 (V 0 3 0) x) 29 (V 0 3 0) y) 30 (V 0 3 0) v) 1 3 (V 0 3 0 + 1)) V := isM_up (by omega) (isM_up (by omega) (isM_up (by omega) (isM_up (by omega) M)))
            generalize upd2 (upd2 (upd2 (upd2 h 28 (V 0 3 0) x) 29 (V 0 3 0) y) 30 (V 0 3 0) v) 1 3 (V 0 3 0 + 1) = h at M' ⊢
            rw [mY h M' h0 h1, mJ]
            unfold m_Md_plan_J91
            simp (disch := omega) only [if_neg, M'.p, if_pos, upd2_np, upd2_eq, w32_id, bv_some, Int.reduceAdd]
          · have X' : isX 1 (upd2 (upd2 (upd2 (upd2 h 28 (V 0 3 0) x) 29 (V 0 3 0) y) 30 (V 0 3 0) v) 1 3 (V 0 3 0 + 1)) (upV (upV (upV (upV V 11 (V 0 3 0) 0 x) 12 (V 0 3 0) 0 y) 13 (V 0 3 0) 0 v) 0 3 0 (V 0 3 0 + 1)) := isX_put (o := 1) _ (by unfold atX; omega) (isX_put (o := 1) _ (by unfold atX; omega) (isX_put (o := 1) _ (by unfold atX; omega) (isX_put (o := 1) _ (by unfold atX; omega) X)))
            refine isX_cg (fun p j a b => ?_) X'
            rw [upd2_np _ (by omega), upd2_np _ (by omega), upd2_np _ (by omega), upd2_np _ (by omega)]
          · exact isM_put _ (by unfold atM; omega) (isM_put _ (by unfold atM; omega) (isM_put _ (by unfold atM; omega) (isM_put _ (by unfold atM; omega) (isM_up (by omega) (isM_up (by omega) (isM_up (by omega) (isM_up (by omega) M)))))))
          · obtain ⟨W, hW⟩ : ∃ W, W = upV (upV (upV (upV V 11 (V 0 3 0) 0 x) 12 (V 0 3 0) 0 y) 13 (V 0 3 0) 0 v) 0 3 0 (V 0 3 0 + 1) := ⟨_, rfl⟩
            rw [← hW]
            have e : ∀ f a b, ¬ (f = 0 ∧ a = 3 ∧ b = 0) → f ≠ 11 → f ≠ 12 → f ≠ 13 → W f a b = V f a b := fun f a b n n1 n2 n3 => by
              rw [hW]
              unfold upV
              rw [if_neg n, if_neg (by omega), if_neg (by omega), if_neg (by omega)]
            have e1 : W 0 3 0 = V 0 3 0 + 1 := by rw [hW]; simp [upV]
            have e2 : ∀ f k, 11 ≤ f → f ≤ 13 → k ≠ V 0 3 0 → W f k 0 = V f k 0 := fun f k a b c => by
              rw [hW]
              unfold upV
              rw [if_neg (by omega), if_neg (by omega), if_neg (by omega), if_neg (by omega)]
            have e3 : W 11 (V 0 3 0) 0 = x := by rw [hW]; simp [upV]
            have e4 : W 12 (V 0 3 0) 0 = y := by rw [hW]; simp [upV]
            have e5 : W 13 (V 0 3 0) 0 = v := by rw [hW]; simp [upV]
            clear hW
            unfold okVw at K ⊢
            rw [e1]
            simp (disch := omega) only [e]
            obtain ⟨x0, x1, x2, x3, x4, x5, x6, x7, x8, x9, x10, x11, x12, x13, x14, x15, x16, x17⟩ := K
            refine ⟨x0, x1, x2, ⟨by omega, by omega⟩, x4, x5, x6, x7, x8, x9, x10, x11, x12, x13, x14, x15, fun k a b => ?_, x17⟩
            by_cases c : k = V 0 3 0
            · rw [c, e3, e4, e5]
              unfold cpV at h1
              omega
            · simp (disch := omega) only [e2]
              exact x16 k a (by omega)
          · exact (frN.tr (frN.tr (frN.tr (frN.u (by omega)) (frN.u (by omega))) (frN.tr (frN.u (by omega)) (frN.u (by omega)))) (frN.tr (frN.tr (frN.u (by omega)) (frN.u (by omega))) (frN.tr (frN.u (by omega)) (frN.u (by omega))))).rest I T P
    · refine ⟨-1, h, h, ?_, mN h0 h1, V, R⟩
      rw [X_canPlanN X h1]
      simp only [if_neg h0, b1_some, if_true]
