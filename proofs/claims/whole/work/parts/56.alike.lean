/-! PURE: share, likeness -/
theorem frC_Ts {V : Vw} {i x y k : Int} {h : HP} : frC h (Ts V 94 i x y k h) := fun p j a => by
  unfold scr at a
  unfold Ts
  rw [if_neg (by omega), if_neg (by omega)]
theorem A_share (i a x y : Int) : AP (m_Cb_share 0 i a x y) (m_Md_share 126 i a x y) := by
  rintro h ⟨V, R⟩
  obtain ⟨X, M, K, I, T, P⟩ := id R
  have hn := K.n
  have hm := K.m
  unfold m_Cb_share m_Md_share m_Cb_share_J41 m_Cb_isAnswer
  simp only [Int.zero_add, Int.reduceAdd, X_hasItem X, X_hasTwo X, b1_some, P_in]
  by_cases h1 : 0 ≤ i ∧ i < V 0 0 0
  · by_cases h2 : (0 ≤ x ∧ x < V 0 1 0) ∧ (0 ≤ y ∧ y < V 0 1 0) ∧ x ≠ y
    · by_cases h3 : -1 ≤ a ∧ a ≤ 3
      · have R' : Rl (Ts V 94 i x y 4 h) V := Rl_fr frC_Ts R
        have M' := R'.2.1
        have e1 : Ts V 94 i x y 4 h 94 1 = Sm (sh V i x y) 4 := by
          unfold Ts
          rw [if_pos (by omega), if_pos rfl]
        have e2 : 0 ≤ a → Ts V 94 i x y 4 h 95 a = sh V i x y a := fun q => by
          unfold Ts
          rw [if_neg (by omega), if_pos (by omega)]
        rw [X_takeShares X K (by omega) (by omega)]
        simp only [b1_some, e1]
        refine ⟨if a = -1 then Sm (sh V i x y) 4 else sh V i x y a, Ts V 94 i x y 4 h, ?_, ?_, V, R'⟩
        · simp only [if_pos h1, if_pos h2]
          rw [if_neg (by omega), if_neg (by omega)]
          by_cases c : a = -1
          · simp only [if_pos c]
          · rw [e2 (by omega)]
            (repeat' split) <;> first | rfl | (exfalso; omega) | skip
            all_goals (simp only [b1_some]; (repeat' split) <;> first | rfl | (exfalso; omega))
        · simp only [M_isItem M' K, M_isTwo M' K, if_pos h1, if_pos h2, b1_some]
          rw [if_neg (by omega), if_neg (by omega), if_pos h3, if_neg (by omega)]
          by_cases c : a = -1
          · rw [M_sumBut M' K (by omega), if_neg (by omega), if_pos c]
            refine congrArg some (Sm_congr (fun b b0 b1 => ?_))
            rw [if_neg (by omega)]
          · rw [M_shareOf M' K (by omega) (by omega), if_pos (by omega), if_neg c]
            rfl
      · refine ⟨-2, h, ?_, ?_, V, R⟩
        · simp only [if_pos h1, if_pos h2]
          rw [if_neg (by omega), if_neg (by omega), if_neg (by omega)]
          (repeat' split) <;> first | rfl | (exfalso; omega) | skip
          all_goals (simp only [b1_some]; (repeat' split) <;> first | rfl | (exfalso; omega))
        · simp only [M_isItem M K, M_isTwo M K, if_pos h1, if_pos h2, if_neg h3, b1_some, if_true]
          rfl
    · refine ⟨-1, h, ?_, ?_, V, R⟩
      · simp only [if_pos h1, if_neg h2, if_true]
        rfl
      · simp only [M_isItem M K, M_isTwo M K, if_pos h1, if_neg h2, b1_some, if_true]
        rfl
  · refine ⟨-1, h, ?_, ?_, V, R⟩
    · simp only [if_neg h1, if_true]
    · simp only [M_isItem M K, if_neg h1, b1_some, if_true]
/-- what an item adds to the likeness -/
def lkA (V : Vw) (x y i : Int) : Int := if 0 ≤ V 4 x i ∧ V 4 x i = V 4 y i then (if V 4 x i = V 1 i 0 then V 7 4 0 else V 7 5 0) else 0
theorem lkA_bd {V : Vw} (K : okVw V) (x y i : Int) : 0 ≤ lkA V x y i ∧ lkA V x y i ≤ 4 := by
  have := K.us
  unfold lkA
  (repeat' split) <;> omega
section Like
variable {o : Int} {h : HP} {V : Vw}
theorem X_worth (X : isX o h V) {i a : Int} (hi : 0 ≤ i ∧ i < 8) : m_Exam_worth o i a h = some (if a = V 1 i 0 then V 7 4 0 else V 7 5 0) := by
  unfold m_Exam_worth
  simp (disch := omega) only [if_pos, X.ky, X.us]
  split <;> rfl
theorem M_worth (X : isM h V) {i a : Int} (hi : 0 ≤ i ∧ i < 8) : m_Md_worth 126 i a h = some (if a = V 1 i 0 then V 7 4 0 else V 7 5 0) := by
  unfold m_Md_worth
  simp (disch := omega) only [if_pos, X.ky, X.us, Int.reduceAdd]
  split <;> rfl
theorem X_likenessAt (X : isX o h V) {i x y : Int} (hi : 0 ≤ i ∧ i < 8) (hx : 0 ≤ x ∧ x < 8) (hy : 0 ≤ y ∧ y < 8) : m_Exam_likenessAt o i x y h = some (lkA V x y i) := by
  unfold m_Exam_likenessAt lkA
  simp (disch := omega) only [if_pos, X.gv, X_worth X hi, b1_some, bv_some]
  (repeat' split) <;> first | rfl | (exfalso; omega)
theorem X_likeness (X : isX o h V) (K : okVw V) {x y : Int} (hx : 0 ≤ x ∧ x < 8) (hy : 0 ≤ y ∧ y < 8) : m_Exam_likeness o x y h = some (Sm (lkA V x y) (V 0 0 0)) := by
  have hn := K.n
  unfold m_Exam_likeness m_Exam_likeness_L5
  refine loop_seq (fun k => (Sm (lkA V x y) k, k)) 0 (V 0 0 0) (by omega) (by omega) rfl (fun k h0 h1 => ?_) ?_
  · have hb := Sm_bd (f := lkA V x y) 0 4 h0 (fun i _ _ => lkA_bd K x y i)
    have hk := lkA_bd K x y k
    dsimp only
    unfold m_Exam_likeness_L5b
    rw [X_likenessAt X ⟨h0, by omega⟩ hx hy]
    simp (disch := omega) only [X.n, if_neg, b1_some, bv_some, w32_id, Sm_s _ h0]
  · dsimp only
    unfold m_Exam_likeness_L5b
    simp (disch := omega) only [X.n, if_pos]
theorem M_likeness (X : isM h V) (K : okVw V) {x y but : Int} (hx : 0 ≤ x ∧ x < V 0 1 0) (hy : 0 ≤ y ∧ y < V 0 1 0) : m_Md_likeness 126 x y but h = some (Sm (fun i => if i = but then 0 else lkA V x y i) (V 0 0 0)) := by
  have hn := K.n
  have hm := K.m
  unfold m_Md_likeness m_Md_likeness_L6
  refine loop_seq (fun k => (Sm (fun i => if i = but then 0 else lkA V x y i) k, k)) 0 (V 0 0 0) (by omega) (by omega) rfl (fun k h0 h1 => ?_) ?_
  · have hb := Sm_bd (f := fun i => if i = but then 0 else lkA V x y i) 0 4 h0 (fun i _ _ => by
      have := lkA_bd K x y i
      split <;> omega)
    have hk := lkA_bd K x y k
    have hu := K.us
    dsimp only
    unfold m_Md_likeness_L6b
    simp (disch := omega) only [X.n, if_neg, if_pos, b1_some, bv_some, w32_id, Sm_s _ h0, Int.reduceAdd, X.gv, M_worth X]
    by_cases q : k = but
    · rw [if_pos q, if_pos q]
    · rw [if_neg q, if_neg q]
      by_cases q1 : V 4 x k < 0
      · have e : lkA V x y k = 0 := by
          unfold lkA
          rw [if_neg (by omega)]
        rw [if_pos q1, e]
        try rfl
      · rw [if_neg q1]
        by_cases q2 : V 4 x k = V 4 y k
        · have e : (if V 4 x k = V 1 k 0 then V 7 4 0 else V 7 5 0) = lkA V x y k := by
            unfold lkA
            rw [if_pos (show 0 ≤ V 4 x k ∧ V 4 x k = V 4 y k from ⟨by omega, q2⟩)]
          rw [if_pos q2, e]
        · have e : lkA V x y k = 0 := by
            unfold lkA
            rw [if_neg (by omega)]
          rw [if_neg q2, e]
          try rfl
  · dsimp only
    unfold m_Md_likeness_L6b
    simp (disch := omega) only [X.n, if_pos]
end Like
theorem A_alike (x y : Int) : PP (m_Cb_alike 0 x y) (m_Md_alike 126 x y) := by
  rintro h ⟨V, X, M, K, I, T, P⟩
  have hm := K.m
  unfold m_Cb_alike m_Md_alike
  simp only [Int.zero_add, Int.reduceAdd, X_hasTwo X, M_isTwo M K, b1_some]
  by_cases h1 : (0 ≤ x ∧ x < V 0 1 0) ∧ (0 ≤ y ∧ y < V 0 1 0) ∧ x ≠ y
  · rw [X_likeness X K (by omega) (by omega), M_likeness M K (by omega) (by omega)]
    refine ⟨Sm (lkA V x y) (V 0 0 0), ?_, ?_⟩
    · simp (disch := omega) only [if_pos h1, if_neg, b1_some]
    · simp (disch := omega) only [if_pos h1, if_neg, b1_some]
      refine congrArg some (Sm_congr (fun i a b => ?_))
      rw [if_neg (by omega)]
  · exact ⟨-1, by simp only [if_neg h1, if_true], by simp only [if_neg h1, if_true]⟩
