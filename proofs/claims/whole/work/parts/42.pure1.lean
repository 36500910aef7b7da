/-! PURE: counts -/
theorem loopO_seq {S X : Type} {f : S → Option (S ⊕ X)} (St : Int → S) (n : Int) (x : X) (hend : f (St n) = some (.inr x)) : ∀ (k : Nat) (a : Int), (hstep : ∀ c, a ≤ c → c < n → f (St c) = some (.inl (St (c + 1)))) → a + k = n → ∀ N, k < N → loopO f N (St a) = some x := by
  intro k
  induction k with
  | zero =>
    intro a _ e N hN
    obtain ⟨M, rfl⟩ : ∃ M, N = M + 1 := ⟨N - 1, by omega⟩
    rw [show a = n by omega]
    unfold loopO
    rw [hend]
  | succ k ih =>
    intro a hs e N hN
    obtain ⟨M, rfl⟩ : ∃ M, N = M + 1 := ⟨N - 1, by omega⟩
    unfold loopO
    rw [hs a (by omega) (by omega)]
    exact ih (a + 1) (fun c h1 h2 => hs c (by omega) h2) (by omega) M (by omega)
theorem loop_seq {S X : Type} {f : S → Option (S ⊕ X)} (St : Int → S) (a n : Int) {x : X} {s : S} (han : a ≤ n) (hN : n - a < 1000000) (hs : s = St a) (hstep : ∀ c, a ≤ c → c < n → f (St c) = some (.inl (St (c + 1)))) (hend : f (St n) = some (.inr x)) : loopO f FUEL s = some x := by
  rw [hs]
  exact loopO_seq St n x hend (n - a).toNat a hstep (by omega) FUEL (by unfold FUEL; omega)
section Cnt
variable {o : Int} {h : HP} {V : Vw}
theorem X_hasItem (X : isX o h V) (i : Int) : m_Exam_hasItem o i h = some (if 0 ≤ i ∧ i < V 0 0 0 then 1 else 0) := by
  unfold m_Exam_hasItem
  rw [X.n]
  grind
theorem X_hasCandidate (X : isX o h V) (i : Int) : m_Exam_hasCandidate o i h = some (if 0 ≤ i ∧ i < V 0 1 0 then 1 else 0) := by
  unfold m_Exam_hasCandidate
  rw [X.m]
  grind
theorem X_hasTwo (X : isX o h V) (x y : Int) : m_Exam_hasTwo o x y h = some (if (0 ≤ x ∧ x < V 0 1 0) ∧ (0 ≤ y ∧ y < V 0 1 0) ∧ x ≠ y then 1 else 0) := by
  unfold m_Exam_hasTwo
  simp only [X_hasCandidate X, b1_some]
  grind
theorem X_hasSeat (X : isX o h V) {c : Int} (hc : 0 ≤ c ∧ c < 8) : m_Exam_hasSeat o c h = some (if 0 ≤ V 5 c 0 then 1 else 0) := by
  unfold m_Exam_hasSeat
  simp (disch := omega) only [X.rw, if_pos]
  grind
theorem P_in (a b c : Int) : m_Md_in a b c h = some (if b ≤ a ∧ a ≤ c then 1 else 0) := by
  unfold m_Md_in lCmp
  grind
theorem M_isItem (X : isM h V) (K : okVw V) (i : Int) : m_Md_isItem 126 i h = some (if 0 ≤ i ∧ i < V 0 0 0 then 1 else 0) := by
  have := K.n
  unfold m_Md_isItem
  simp (disch := omega) only [P_in, b1_some, X.n, w32_id]
  grind
theorem M_isOne (X : isM h V) (K : okVw V) (i : Int) : m_Md_isOne 126 i h = some (if 0 ≤ i ∧ i < V 0 1 0 then 1 else 0) := by
  have := K.m
  unfold m_Md_isOne
  simp (disch := omega) only [P_in, b1_some, X.m, w32_id]
  grind
theorem M_isTwo (X : isM h V) (K : okVw V) (x y : Int) : m_Md_isTwo 126 x y h = some (if (0 ≤ x ∧ x < V 0 1 0) ∧ (0 ≤ y ∧ y < V 0 1 0) ∧ x ≠ y then 1 else 0) := by
  unfold m_Md_isTwo
  simp only [M_isOne X K, b1_some]
  grind
theorem X_howMany (X : isX o h V) (K : okVw V) {i a : Int} (hi : 0 ≤ i ∧ i < 8) : m_Exam_howMany o i a h = some (Sm (fun c => if V 4 c i = a then 1 else 0) (V 0 1 0)) := by
  have hm := K.m
  unfold m_Exam_howMany m_Exam_howMany_L5
  refine loop_seq (fun k => (Sm (fun c => if V 4 c i = a then 1 else 0) k, k)) 0 (V 0 1 0) (by omega) (by omega) rfl (fun k h0 h1 => ?_) ?_
  · have hb := Sm_bd (f := fun c => if V 4 c i = a then 1 else 0) 0 1 h0 (fun i _ _ => by split <;> omega)
    dsimp only
    unfold m_Exam_howMany_L5b
    simp (disch := omega) only [X.m, if_neg, if_pos, X.gv, w32_id, Sm_s _ h0]
    grind
  · dsimp only
    unfold m_Exam_howMany_L5b
    simp (disch := omega) only [X.m, if_pos]
theorem X_answersOf (X : isX o h V) (K : okVw V) {c : Int} (hc : 0 ≤ c ∧ c < 8) : m_Exam_answersOf o c h = some (Sm (fun i => if 0 ≤ V 4 c i then 1 else 0) (V 0 0 0)) := by
  have hm := K.n
  unfold m_Exam_answersOf m_Exam_answersOf_L4
  refine loop_seq (fun k => (Sm (fun i => if 0 ≤ V 4 c i then 1 else 0) k, k)) 0 (V 0 0 0) (by omega) (by omega) rfl (fun k h0 h1 => ?_) ?_
  · have hb := Sm_bd (f := fun i => if 0 ≤ V 4 c i then 1 else 0) 0 1 h0 (fun i _ _ => by split <;> omega)
    dsimp only
    unfold m_Exam_answersOf_L4b
    simp (disch := omega) only [X.n, if_neg, if_pos, X.gv, w32_id, Sm_s _ h0]
    grind
  · dsimp only
    unfold m_Exam_answersOf_L4b
    simp (disch := omega) only [X.n, if_pos]
theorem X_rightOnesOf (X : isX o h V) (K : okVw V) {c : Int} (hc : 0 ≤ c ∧ c < 8) : m_Exam_rightOnesOf o c h = some (Sm (fun i => if V 4 c i = V 1 i 0 then 1 else 0) (V 0 0 0)) := by
  have hm := K.n
  unfold m_Exam_rightOnesOf m_Exam_rightOnesOf_L4
  refine loop_seq (fun k => (Sm (fun i => if V 4 c i = V 1 i 0 then 1 else 0) k, k)) 0 (V 0 0 0) (by omega) (by omega) rfl (fun k h0 h1 => ?_) ?_
  · have hb := Sm_bd (f := fun i => if V 4 c i = V 1 i 0 then 1 else 0) 0 1 h0 (fun i _ _ => by split <;> omega)
    dsimp only
    unfold m_Exam_rightOnesOf_L4b
    simp (disch := omega) only [X.n, if_neg, if_pos, X.gv, X.ky, w32_id, Sm_s _ h0]
    grind
  · dsimp only
    unfold m_Exam_rightOnesOf_L4b
    simp (disch := omega) only [X.n, if_pos]
theorem X_seatedOnes (X : isX o h V) (K : okVw V) : m_Exam_seatedOnes o h = some (Sm (fun c => if 0 ≤ V 5 c 0 then 1 else 0) (V 0 1 0)) := by
  have hm := K.m
  unfold m_Exam_seatedOnes m_Exam_seatedOnes_L4
  refine loop_seq (fun k => (Sm (fun c => if 0 ≤ V 5 c 0 then 1 else 0) k, k)) 0 (V 0 1 0) (by omega) (by omega) rfl (fun k h0 h1 => ?_) ?_
  · have hb := Sm_bd (f := fun c => if 0 ≤ V 5 c 0 then 1 else 0) 0 1 h0 (fun i _ _ => by split <;> omega)
    dsimp only
    unfold m_Exam_seatedOnes_L4b
    rw [X_hasSeat X (by omega)]
    simp (disch := omega) only [X.m, if_neg, if_pos, b1_some, w32_id, Sm_s _ h0]
    grind
  · dsimp only
    unfold m_Exam_seatedOnes_L4b
    simp (disch := omega) only [X.m, if_pos]
theorem M_seatedOnes (X : isM h V) (K : okVw V) : m_Md_seatedOnes 126 h = some (Sm (fun c => if 0 ≤ V 5 c 0 then 1 else 0) (V 0 1 0)) := by
  have hm := K.m
  unfold m_Md_seatedOnes m_Md_seatedOnes_L4
  refine loop_seq (fun k => (Sm (fun c => if 0 ≤ V 5 c 0 then 1 else 0) k, k)) 0 (V 0 1 0) (by omega) (by omega) rfl (fun k h0 h1 => ?_) ?_
  · have hb := Sm_bd (f := fun c => if 0 ≤ V 5 c 0 then 1 else 0) 0 1 h0 (fun i _ _ => by split <;> omega)
    dsimp only
    unfold m_Md_seatedOnes_L4b
    simp (disch := omega) only [X.m, Int.reduceAdd, X.rw, if_neg, if_pos, bv_some, w32_id, Sm_s _ h0]
    grind
  · dsimp only
    unfold m_Md_seatedOnes_L4b
    simp (disch := omega) only [X.m, if_pos]
theorem M_gave (X : isM h V) (K : okVw V) {c w : Int} (hc : 0 ≤ c ∧ c < V 0 1 0) : m_Md_gave 126 c w h = some (Sm (fun i => if 0 ≤ V 4 c i ∧ (w = 0 ∨ V 4 c i = V 1 i 0) then 1 else 0) (V 0 0 0)) := by
  have hm := K.n
  have hm' := K.m
  unfold m_Md_gave m_Md_gave_L5
  refine loop_seq (fun k => (Sm (fun i => if 0 ≤ V 4 c i ∧ (w = 0 ∨ V 4 c i = V 1 i 0) then 1 else 0) k, k)) 0 (V 0 0 0) (by omega) (by omega) rfl (fun k h0 h1 => ?_) ?_
  · have hb := Sm_bd (f := fun i => if 0 ≤ V 4 c i ∧ (w = 0 ∨ V 4 c i = V 1 i 0) then 1 else 0) 0 1 h0 (fun i _ _ => by split <;> omega)
    dsimp only
    unfold m_Md_gave_L5b
    simp (disch := omega) only [X.n, Int.reduceAdd, if_neg, if_pos, w32_id, X.gv, X.ky, bv_some, Sm_s _ h0]
    grind
  · dsimp only
    unfold m_Md_gave_L5b
    simp (disch := omega) only [X.n, if_pos]
theorem M_gavers (X : isM h V) (K : okVw V) {i a x y : Int} (hi : 0 ≤ i ∧ i < 8) : m_Md_gavers 126 i a x y h = some (Sm (fun c => if c ≠ x ∧ c ≠ y ∧ V 4 c i = a then 1 else 0) (V 0 1 0)) := by
  have hm := K.m
  unfold m_Md_gavers m_Md_gavers_L6
  refine loop_seq (fun k => (Sm (fun c => if c ≠ x ∧ c ≠ y ∧ V 4 c i = a then 1 else 0) k, k)) 0 (V 0 1 0) (by omega) (by omega) rfl (fun k h0 h1 => ?_) ?_
  · have hb := Sm_bd (f := fun c => if c ≠ x ∧ c ≠ y ∧ V 4 c i = a then 1 else 0) 0 1 h0 (fun i _ _ => by split <;> omega)
    dsimp only
    unfold m_Md_gavers_L6b
    simp (disch := omega) only [X.m, Int.reduceAdd, if_neg, if_pos, w32_id, X.gv, bv_some, Sm_s _ h0]
    grind
  · dsimp only
    unfold m_Md_gavers_L6b
    simp (disch := omega) only [X.m, if_pos]
end Cnt
