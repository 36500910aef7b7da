/-! PURE: itemOf -/
def isFav (g : Int → Int) (ky r : Int) : Prop := 0 ≤ r ∧ r < 4 ∧ r ≠ ky ∧ ∀ b, 0 ≤ b → b < 4 → b ≠ ky → g b < g r ∨ (g b = g r ∧ r ≤ b)
theorem isFav.uq {g : Int → Int} {ky r s : Int} (a : isFav g ky r) (b : isFav g ky s) : r = s := by
  have h1 := a.2.2.2 s b.1 b.2.1 b.2.2.1
  have h2 := b.2.2.2 r a.1 a.2.1 a.2.2.1
  omega
section ItemOf
variable {o : Int} {h : HP} {V : Vw}
theorem X_fav (X : isX o h V) (K : okVw V) {i : Int} (hi : 0 ≤ i ∧ i < 8) : ∃ r, m_Exam_favouriteMistake o i h = some r ∧ isFav (fun a => Sm (fun c => if V 4 c i = a then 1 else 0) (V 0 1 0)) (V 1 i 0) r := by
  have hk := K.ky i hi.1 hi.2
  have hm := K.m
  unfold m_Exam_favouriteMistake m_Exam_favouriteMistake_L7
  obtain ⟨g, hg⟩ : ∃ g : Int → Int, g = fun a => Sm (fun c => if V 4 c i = a then 1 else 0) (V 0 1 0) := ⟨_, rfl⟩
  have hw : ∀ a, m_Exam_howMany o i a h = some (g a) := fun a => by rw [X_howMany X K hi, hg]
  have g0 : ∀ a, 0 ≤ g a := fun a => by
    rw [hg]
    have := Sm_bd (f := fun c => if V 4 c i = a then 1 else 0) 0 1 hm.1 (fun c _ _ => by split <;> omega)
    dsimp only
    omega
  rw [← hg]
  refine loopO_inv (fun s => 0 ≤ s.2.2 ∧ s.2.2 ≤ 4 ∧ ((s.1 = -1 ∧ s.2.1 = -1 ∧ ∀ b, 0 ≤ b → b < s.2.2 → b = V 1 i 0) ∨ (0 ≤ s.1 ∧ s.1 < s.2.2 ∧ s.1 ≠ V 1 i 0 ∧ s.2.1 = g s.1 ∧ ∀ b, 0 ≤ b → b < s.2.2 → b ≠ V 1 i 0 → g b < s.2.1 ∨ (g b = s.2.1 ∧ s.1 ≤ b)))) (fun s => 4 - s.2.2.toNat) _ ?_ FUEL (-1, -1, 0) ⟨by simp, by simp, Or.inl ⟨rfl, rfl, fun b _ _ => by simp only at *; omega⟩⟩ (by unfold FUEL; simp)
  rintro ⟨best, most, a⟩ ⟨h0, h1, h2⟩
  simp only at h0 h1 h2
  dsimp only
  unfold m_Exam_favouriteMistake_L7b
  by_cases q : 4 ≤ a
  · right
    refine ⟨best, by rw [if_pos q], ?_⟩
    have ea : a = 4 := by omega
    subst ea
    rcases h2 with ⟨_, _, h3⟩ | ⟨h3, h4, h5, h6, h7⟩
    · have := h3 0 (by omega) (by omega)
      have := h3 1 (by omega) (by omega)
      omega
    · rw [h6] at h7
      exact ⟨h3, h4, h5, h7⟩
  · left
    simp (disch := omega) only [if_neg q, hw, b1_some, if_pos, X.ky, w32_id]
    have ga := g0 a
    by_cases q1 : a = V 1 i 0
    · rw [if_pos q1]
      refine ⟨_, rfl, ⟨by simp only; omega, by simp only; omega, ?_⟩, by simp only; omega⟩
      simp only
      rcases h2 with ⟨h3, h4, h5⟩ | ⟨h3, h4, h5, h6, h7⟩
      · refine Or.inl ⟨h3, h4, fun b b0 b1 => ?_⟩
        by_cases e : b = a
        · omega
        · exact h5 b b0 (by omega)
      · refine Or.inr ⟨h3, by omega, h5, h6, fun b b0 b1 b2 => h7 b b0 (by omega) b2⟩
    · rw [if_neg q1]
      by_cases q2 : g a ≤ most
      · rw [if_pos q2]
        refine ⟨_, rfl, ⟨by simp only; omega, by simp only; omega, ?_⟩, by simp only; omega⟩
        simp only
        rcases h2 with ⟨h3, h4, h5⟩ | ⟨h3, h4, h5, h6, h7⟩
        · omega
        · refine Or.inr ⟨h3, by omega, h5, h6, fun b b0 b1 b2 => ?_⟩
          by_cases e : b = a
          · rw [e]; omega
          · exact h7 b b0 (by omega) b2
      · rw [if_neg q2]
        refine ⟨_, rfl, ⟨by simp only; omega, by simp only; omega, ?_⟩, by simp only; omega⟩
        simp only
        refine Or.inr ⟨h0, by omega, q1, by first | trivial | rfl, fun b b0 b1 b2 => ?_⟩
        by_cases e : b = a
        · rw [e]; omega
        · rcases h2 with ⟨h3, h4, h5⟩ | ⟨h3, h4, h5, h6, h7⟩
          · exact absurd (h5 b b0 (by omega)) b2
          · have := h7 b b0 (by omega) b2
            omega
theorem M_fav (X : isM h V) (K : okVw V) {i : Int} (hi : 0 ≤ i ∧ i < 8) : ∃ r, m_Md_likedWrong 126 i h = some r ∧ isFav (fun a => Sm (fun c => if V 4 c i = a then 1 else 0) (V 0 1 0)) (V 1 i 0) r := by
  have hk := K.ky i hi.1 hi.2
  have hm := K.m
  unfold m_Md_likedWrong m_Md_likedWrong_L4
  obtain ⟨g, hg⟩ : ∃ g : Int → Int, g = fun a => Sm (fun c => if V 4 c i = a then 1 else 0) (V 0 1 0) := ⟨_, rfl⟩
  have hw : ∀ a, m_Md_gavers 126 i a (-1) (-1) h = some (g a) := fun a => by
    rw [M_gavers X K hi, hg]
    refine congrArg some (Sm_congr (fun c a b => ?_))
    have : c ≠ -1 := by omega
    simp [this]
  rw [← hg]
  refine loopO_inv (fun s => -1 ≤ s.2 ∧ s.2 ≤ 3 ∧ ((s.1 = -1 ∧ ∀ b, s.2 < b → b < 4 → b = V 1 i 0) ∨ (s.2 < s.1 ∧ s.1 < 4 ∧ s.1 ≠ V 1 i 0 ∧ ∀ b, s.2 < b → b < 4 → b ≠ V 1 i 0 → g b < g s.1 ∨ (g b = g s.1 ∧ s.1 ≤ b)))) (fun s => (s.2 + 1).toNat) _ ?_ FUEL (-1, 3) ⟨by simp, by simp, Or.inl ⟨rfl, fun b _ _ => by simp only at *; omega⟩⟩ (by unfold FUEL; simp)
  rintro ⟨best, a⟩ ⟨h0, h1, h2⟩
  simp only at h0 h1 h2
  dsimp only
  unfold m_Md_likedWrong_L4b
  by_cases q : a < 0
  · right
    refine ⟨best, by rw [if_pos q], ?_⟩
    have ea : a = -1 := by omega
    subst ea
    rcases h2 with ⟨_, h3⟩ | ⟨h3, h4, h5, h7⟩
    · have := h3 0 (by omega) (by omega)
      have := h3 1 (by omega) (by omega)
      omega
    · exact ⟨by omega, h4, h5, fun b b0 b1 b2 => h7 b (by omega) b1 b2⟩
  · left
    simp (disch := omega) only [if_neg q, hw, b1_some, if_pos, X.ky, w32_id, Int.reduceAdd]
    by_cases q1 : a = V 1 i 0
    · rw [if_pos q1]
      refine ⟨_, rfl, ⟨by simp only; omega, by simp only; omega, ?_⟩, by simp only; omega⟩
      simp only
      rcases h2 with ⟨h3, h5⟩ | ⟨h3, h4, h5, h7⟩
      · refine Or.inl ⟨h3, fun b b0 b1 => ?_⟩
        by_cases e : b = a
        · omega
        · exact h5 b (by omega) b1
      · refine Or.inr ⟨by omega, h4, h5, fun b b0 b1 b2 => h7 b (by omega) b1 b2⟩
    · rw [if_neg q1]
      by_cases q2 : best < 0
      · rw [if_pos q2]
        refine ⟨_, rfl, ⟨by simp only; omega, by simp only; omega, ?_⟩, by simp only; omega⟩
        simp only
        rcases h2 with ⟨h3, h5⟩ | ⟨h3, h4, h5, h7⟩
        · refine Or.inr ⟨by omega, by omega, q1, fun b b0 b1 b2 => ?_⟩
          by_cases e : b = a
          · rw [e]; omega
          · exact absurd (h5 b (by omega) b1) b2
        · omega
      · rw [if_neg q2]
        rcases h2 with ⟨h3, h5⟩ | ⟨h3, h4, h5, h7⟩
        · omega
        · by_cases q3 : g a < g best
          · rw [if_pos q3]
            refine ⟨_, rfl, ⟨by simp only; omega, by simp only; omega, ?_⟩, by simp only; omega⟩
            simp only
            refine Or.inr ⟨by omega, h4, h5, fun b b0 b1 b2 => ?_⟩
            by_cases e : b = a
            · rw [e]; omega
            · exact h7 b (by omega) b1 b2
          · rw [if_neg q3]
            refine ⟨_, rfl, ⟨by simp only; omega, by simp only; omega, ?_⟩, by simp only; omega⟩
            simp only
            refine Or.inr ⟨by omega, by omega, q1, fun b b0 b1 b2 => ?_⟩
            by_cases e : b = a
            · rw [e]; omega
            · have := h7 b (by omega) b1 b2
              omega
end ItemOf
theorem A_itemOf (i w : Int) : PP (m_Cb_itemOf 0 i w) (m_Md_itemOf 126 i w) := by
  rintro h ⟨V, X, M, K, I, T, P⟩
  have hn := K.n
  have hm := K.m
  unfold m_Cb_itemOf m_Md_itemOf m_Exam_answersTo m_Md_givers
  simp only [Int.zero_add, Int.reduceAdd, X_hasItem X, M_isItem M K, b1_some]
  by_cases h1 : 0 ≤ i ∧ i < V 0 0 0
  · obtain ⟨r, er, fr⟩ := X_fav X K (i := i) (by omega)
    obtain ⟨s, es, fs⟩ := M_fav M K (i := i) (by omega)
    have e : r = s := fr.uq fs
    subst e
    have e1 := X.ky (i := i) (by omega) (by omega)
    have e2 := X.kd (i := i) (by omega) (by omega)
    simp only [Int.reduceAdd] at e1 e2
    have gm : ∀ a, m_Md_gavers 126 i a (-1) (-1) h = m_Exam_howMany 1 i a h := fun a => by
      rw [M_gavers M K (by omega), X_howMany X K (by omega)]
      refine congrArg some (Sm_congr (fun c a b => ?_))
      have : c ≠ -1 := by omega
      simp [this]
    obtain ⟨v, ev⟩ : ∃ v, m_Exam_howMany 1 i (-1) h = some v := ⟨_, X_howMany X K (by omega)⟩
    obtain ⟨u, eu⟩ : ∃ u, m_Exam_howMany 1 i (V 1 i 0) h = some u := ⟨_, X_howMany X K (by omega)⟩
    simp (disch := omega) only [if_pos h1, if_pos, if_neg, er, es, e1, e2, M.ky, M.kd, gm, X.m, M.m, ev, eu, b1_some]
    refine PPi ?_ ?_ <;> (repeat' split) <;> first | rfl | (exfalso; omega)
  · exact ⟨-1, by simp only [if_neg h1, if_true], by simp only [if_neg h1, if_true]⟩
