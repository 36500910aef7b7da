/-! PURE: judge -/
theorem A_judge (c t i : Int) (hi : inR i) : PP (m_Cb_judge 0 c t i) (m_Md_judge 126 c t i) := by
  rintro h ⟨V, X, M, K, I, T, P⟩
  unfold inR at hi
  have hn := K.n
  have hm := K.m
  unfold m_Cb_judge m_Md_judge m_Tape_holdsNothing
  simp only [Int.zero_add, X_hasCandidate X, M_isOne M K, P_isTapeX, P_isTapeM, b1_some, Int.reduceAdd, bv_some]
  by_cases h0 : 0 ≤ c ∧ c < V 0 1 0
  · by_cases h1 : 0 ≤ t ∧ t ≤ 5
    · obtain ⟨p0, p1, p2, p3, p4, p5, p6, p7⟩ := P t (by omega) (by omega)
      simp (disch := omega) only [if_pos h0, if_pos h1, if_pos, if_neg, p0]
      have loop : ∃ a, m_Cb_judge_L50 0 c i (2 * t + 114) h 0 = some a ∧ m_Md_judge_L32 126 c t i h 0 = some a := by
        unfold m_Cb_judge_L50 m_Md_judge_L32
        obtain ⟨x, y, ex, ey, e⟩ := loopO_sim (f := fun s => m_Cb_judge_L50b 0 c i (2 * t + 114) h s) (g := fun s => m_Md_judge_L32b 126 c t i h s) (fun k k' => k = k' ∧ 0 ≤ k ∧ k ≤ V 0 0 0) (fun k => 8 - k.toNat) (fun x y => x = y) (by
          rintro k k' ⟨rfl, k0, k1⟩
          unfold m_Cb_judge_L50b m_Md_judge_L32b m_Tape_hasPlaceBehind
          have en := X.n
          simp only [Int.zero_add, Int.reduceAdd] at en ⊢
          rw [en, M.n]
          by_cases q : V 0 0 0 ≤ k
          · right
            exact ⟨-5, -5, by rw [if_pos q], by rw [if_pos q], rfl⟩
          · simp (disch := omega) only [if_neg q, p1, w32_id, if_pos]
            by_cases q1 : 0 ≤ i ∧ i < h 163 t - k
            · have e := p7 (i + k) (by omega) (by omega)
              have e1 := X.gv (c := c) (i := k) (by omega) (by omega) (by omega) (by omega)
              have e2 := M.gv (c := c) (i := k) (by omega) (by omega) (by omega) (by omega)
              rw [show (1 : Int) + c + 13 = c + 14 by omega] at e1
              simp (disch := omega) only [if_neg, if_pos, b1_some, w32_id, show (126 : Int) + t + 30 = t + 156 by omega, show 2 * t + 114 + 1 = 2 * t + 115 by omega, e, e1, e2]
              by_cases q2 : lCmp (h (t + 156) (i + k)) (V 4 c k) = 0
              · left
                exact ⟨k + 1, k + 1, by rw [if_pos q2], by rw [if_pos q2], ⟨rfl, by omega, by omega⟩, by omega⟩
              · right
                exact ⟨k, k, by rw [if_neg q2], by rw [if_neg q2], rfl⟩
            · right
              refine ⟨100 + k, 100 + k, ?_, ?_, rfl⟩
              · (repeat' split) <;> first | rfl | (exfalso; omega) | (simp (disch := omega) only [b1_some, if_true, if_pos])
              · (repeat' split) <;> first | rfl | (exfalso; omega)) FUEL 0 0 ⟨rfl, by omega, by omega⟩ (by unfold FUEL; omega)
        exact ⟨x, ex, e ▸ ey⟩
      obtain ⟨a, ea, eb⟩ := loop
      rw [ea, eb]
      by_cases q : h 162 t ≤ 0
      · refine ⟨a, ?_, by rw [if_pos q]⟩
        (repeat' split) <;> first | rfl | (exfalso; omega) | (simp only [b1_some]; (repeat' split) <;> first | rfl | (exfalso; omega))
      · refine ⟨-12, ?_, by rw [if_neg q]⟩
        rw [if_neg (by omega)]
        simp (disch := omega) only [b1_some, if_true, if_neg]
    · exact ⟨-1, by simp only [if_pos h0, if_neg h1, if_true]; simp, by simp only [if_pos h0, if_neg h1, if_true]; simp⟩
  · exact ⟨-1, by simp only [if_neg h0, if_true], by simp only [if_neg h0, if_true]⟩
