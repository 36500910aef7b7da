/-! PURE: counts -/
section Cnt
variable {o : Int} {h : HP} {V : Vw}
theorem X_howMany (X : isX o h V) (K : okVw V) {i a : Int} (hi : 0 ≤ i ∧ i < 8) : m_Exam_howMany o i a h = some (Sm (fun c => if V 4 c i = a then 1 else 0) (V 0 1 0)) := by
  have hm := K.m
  unfold m_Exam_howMany m_Exam_howMany_L5
  refine loopO_val (fun s => 0 ≤ s.2 ∧ s.2 ≤ V 0 1 0 ∧ s.1 = Sm (fun c => if V 4 c i = a then 1 else 0) s.2 ∧ 0 ≤ s.1 ∧ s.1 ≤ s.2) (fun s => 8 - s.2.toNat) _ ?_ FUEL (0, 0) ⟨by simp; omega, by simp; omega, rfl, by simp, by simp⟩ (by unfold FUEL; simp)
  rintro ⟨q, c⟩ ⟨h0, h1, e, h2, h3⟩
  simp only at h0 h1 e h2 h3
  unfold m_Exam_howMany_L5b
  simp (disch := omega) only [X.m]
  by_cases hc : V 0 1 0 ≤ c
  · right
    rw [show c = V 0 1 0 by omega] at e
    simp (disch := omega) only [if_pos, e]
  · left
    simp (disch := omega) only [if_neg, if_pos, X.gv, w32_id]
    by_cases hq : V 4 c i = a
    · rw [if_pos hq]
      refine ⟨_, rfl, ⟨by simp only; omega, by simp only; omega, ?_, by simp only; omega, by simp only; omega⟩, by simp only; omega⟩
      simp only [Sm_s _ h0, if_pos hq, e]
    · rw [if_neg hq]
      refine ⟨_, rfl, ⟨by simp only; omega, by simp only; omega, ?_, by simp only; omega, by simp only; omega⟩, by simp only; omega⟩
      simp only [Sm_s _ h0, if_neg hq, e, Int.add_zero]
end Cnt
