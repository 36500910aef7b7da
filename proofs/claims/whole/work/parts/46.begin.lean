/-! PURE: items, candidate, seat, see, plan -/
theorem pr_eq {α β : Type} {a : α} {b b' : β} (e : b = b') : (a, b) = (a, b') := by rw [e]
theorem in_eq {α X : Type} {a : α} {b b' : HP} (e : b = b') : (some (.inl (a, b)) : Option ((α × HP) ⊕ X)) = some (.inl (a, b')) := by rw [e]
def Bl (o c k : Int) (h : HP) : HP := fun p j => if p = o + c + 13 ∧ 0 ≤ j ∧ j < k then -1 else h p j
theorem X_leaveBlank (o c : Int) (h : HP) (hc : 0 ≤ c ∧ c < 8) : m_Exam_leaveBlank o c h = some (Bl o c 8 h) := by
  unfold m_Exam_leaveBlank m_Exam_leaveBlank_L2
  refine loop_seq (fun k => (k, Bl o c k h)) 0 8 (by omega) (by omega) ?_ (fun k h0 h1 => ?_) ?_
  · refine pr_eq ?_
    funext p j
    unfold Bl
    rw [if_neg (by omega)]
  · dsimp only
    unfold m_Exam_leaveBlank_L2b
    simp (disch := omega) only [if_pos, if_neg, bv_some, w32_id]
    refine in_eq ?_
    funext p j
    unfold Bl upd2
    ((try dsimp only); repeat' split) <;> first | rfl | (exfalso; omega)
  · dsimp only
    unfold m_Exam_leaveBlank_L2b
    simp (disch := omega) only [if_pos]
theorem X_sits (o c r q : Int) (h : HP) (hc : 0 ≤ c ∧ c < 8) : m_Exam_sits o c r q h = some (upd2 (upd2 h (o + 21) c r) (o + 22) c q) := by
  unfold m_Exam_sits
  simp (disch := omega) only [if_pos, bv_some]
def Bg1 (o k a : Int) (h : HP) : HP := fun p j => if (p = o + 1 ∨ p = o + 2) ∧ 0 ≤ j ∧ j < k then 0 else if o + 4 ≤ p ∧ p < o + 4 + k ∧ 0 ≤ j ∧ j < 4 then 1 else if p = o + 4 + k ∧ 0 ≤ j ∧ j < a then 1 else h p j
def Bg2 (o k : Int) (h : HP) : HP := fun p j => if o + 13 ≤ p ∧ p < o + 13 + k ∧ 0 ≤ j ∧ j < 8 then -1 else if (p = o + 21 ∨ p = o + 22) ∧ 0 ≤ j ∧ j < k then -1 else h p j
def Bg (o n : Int) (h : HP) : HP := Bg2 o 8 (Bg1 o 8 0 (upd2 (upd2 (upd2 (upd2 h o 0 n) o 1 0) o 2 0) o 3 0))
theorem X_begin (o n : Int) (h : HP) : m_Exam_begin o n h = some (Bg o n h) := by
  unfold m_Exam_begin Bg
  simp only [bv_some]
  generalize upd2 (upd2 (upd2 (upd2 h o 0 n) o 1 0) o 2 0) o 3 0 = h
  unfold m_Exam_begin_L22
  refine loop_seq (fun k => (k, Bg1 o k 0 h)) 0 8 (by omega) (by omega) ?_ (fun k h0 h1 => ?_) ?_
  · refine pr_eq ?_
    funext p j
    unfold Bg1
    rw [if_neg (by omega), if_neg (by omega), if_neg (by omega)]
  · dsimp only
    unfold m_Exam_begin_L22b
    simp (disch := omega) only [if_pos, if_neg, bv_some]
    unfold m_Exam_begin_L44
    refine loop_seq (fun a => (a, (fun p j => if (p = o + 1 ∨ p = o + 2) ∧ 0 ≤ j ∧ j < k + 1 then 0 else if o + 4 ≤ p ∧ p < o + 4 + k ∧ 0 ≤ j ∧ j < 4 then 1 else if p = o + 4 + k ∧ 0 ≤ j ∧ j < a then 1 else h p j : HP))) 0 4 (by omega) (by omega) ?_ (fun a h2 h3 => ?_) ?_
    · refine pr_eq ?_
      funext p j
      unfold Bg1 upd2
      ((try dsimp only); repeat' split) <;> first | rfl | (exfalso; omega)
    · dsimp only
      unfold m_Exam_begin_L44b
      simp (disch := omega) only [if_pos, if_neg, bv_some, w32_id]
      refine in_eq ?_
      funext p j
      unfold upd2
      ((try dsimp only); repeat' split) <;> first | rfl | (exfalso; omega)
    · dsimp only
      unfold m_Exam_begin_L44b
      simp (disch := omega) only [if_pos, w32_id]
      refine congrArg some (congrArg Sum.inr (congrArg Sum.inl (pr_eq ?_)))
      funext p j
      unfold Bg1
      ((try dsimp only); repeat' split) <;> first | rfl | (exfalso; omega)
  · dsimp only
    unfold m_Exam_begin_L22b
    simp (disch := omega) only [if_pos]
    generalize Bg1 o 8 0 h = h
    have e : m_Exam_begin_L72 o (0, h) = some (Bg2 o 8 h) := by
      unfold m_Exam_begin_L72
      refine loop_seq (fun k => (k, Bg2 o k h)) 0 8 (by omega) (by omega) ?_ (fun k h0 h1 => ?_) ?_
      · refine pr_eq ?_
        funext p j
        unfold Bg2
        rw [if_neg (by omega), if_neg (by omega)]
      · dsimp only
        unfold m_Exam_begin_L72b
        simp (disch := omega) only [if_pos, if_neg, w32_id, X_leaveBlank, X_sits, b1_some]
        refine in_eq ?_
        funext p j
        unfold Bg2 Bl upd2
        ((try dsimp only); repeat' split) <;> first | rfl | (exfalso; omega)
      · dsimp only
        unfold m_Exam_begin_L72b
        simp (disch := omega) only [if_pos]
    rw [e]
    rfl
/-- the view after items(n) -/
def vBg (n : Int) (V : Vw) : Vw := fun f a b => if f = 0 ∧ a = 0 ∧ b = 0 then n else if f = 0 then 0 else if f = 1 ∨ f = 2 then 0 else if f = 3 then 1 else if f = 4 ∨ f = 5 ∨ f = 6 then -1 else V f a b
theorem isX_Bg {o n : Int} {h : HP} {V : Vw} (X : (∀ k, 0 ≤ k → k < 6 → h (o + 23) k = V 7 k 0) ∧ (∀ k, 0 ≤ k → k < 5 → h (o + 24) k = V 8 k 0 ∧ h (o + 25) k = V 9 k 0 ∧ h (o + 26) k = V 10 k 0) ∧ (∀ k, 0 ≤ k → k < 8 → h (o + 27) k = V 11 k 0 ∧ h (o + 28) k = V 12 k 0 ∧ h (o + 29) k = V 13 k 0)) : isX o (Bg o n h) (vBg n V) := by
  obtain ⟨x10, x11, x12⟩ := X
  have e : ∀ p j, o + 23 ≤ p → Bg o n h p j = h p j := fun p j hp => by
    unfold Bg Bg2 Bg1 upd2
    repeat rw [if_neg (by omega)]
  have e' : ∀ f a b, 7 ≤ f → vBg n V f a b = V f a b := fun f a b hf => by
    unfold vBg
    repeat rw [if_neg (by omega)]
  refine ⟨?_, ?_, ?_, ?_, fun i a b => ?_, fun i a b => ?_, fun i j a b c d => ?_, fun i j a b c d => ?_, fun i a b => ?_, fun i a b => ?_, fun i a b => ?_, fun i a b => ?_, fun i a b => ?_⟩
  · unfold Bg Bg2 Bg1 upd2 vBg; simp; grind
  · unfold Bg Bg2 Bg1 upd2 vBg; simp; grind
  · unfold Bg Bg2 Bg1 upd2 vBg; simp; grind
  · unfold Bg Bg2 Bg1 upd2 vBg; simp; grind
  · unfold Bg Bg2 Bg1 upd2 vBg; rw [if_neg (by omega), if_neg (by omega), if_pos (by omega)]; simp
  · unfold Bg Bg2 Bg1 upd2 vBg; rw [if_neg (by omega), if_neg (by omega), if_pos (by omega)]; simp
  · unfold Bg Bg2 Bg1 upd2 vBg; rw [if_neg (by omega), if_neg (by omega), if_neg (by omega), if_pos (by omega)]; simp
  · unfold Bg Bg2 Bg1 upd2 vBg; rw [if_pos (by omega)]; simp
  · unfold Bg Bg2 Bg1 upd2 vBg; rw [if_neg (by omega), if_pos (by omega)]; simp
  · unfold Bg Bg2 Bg1 upd2 vBg; rw [if_neg (by omega), if_pos (by omega)]; simp
  · rw [e _ _ (by omega), e' _ _ _ (by omega)]; exact x10 i a b
  · rw [e _ _ (by omega), e _ _ (by omega), e _ _ (by omega), e' _ _ _ (by omega), e' _ _ _ (by omega), e' _ _ _ (by omega)]; exact x11 i a b
  · rw [e _ _ (by omega), e _ _ (by omega), e _ _ (by omega), e' _ _ _ (by omega), e' _ _ _ (by omega), e' _ _ _ (by omega)]; exact x12 i a b
theorem Bg_fr {o n : Int} {h : HP} {p j : Int} (hp : p < o ∨ o + 29 < p) : Bg o n h p j = h p j := by
  unfold Bg Bg2 Bg1 upd2
  repeat rw [if_neg (by omega)]
theorem okVw_Bg {n : Int} {V : Vw} (hn : 1 ≤ n ∧ n ≤ 8) (hu : (0 ≤ V 7 0 0 ∧ V 7 0 0 ≤ 3) ∧ (0 ≤ V 7 1 0 ∧ V 7 1 0 ≤ 3) ∧ (1 ≤ V 7 2 0 ∧ V 7 2 0 ≤ 500) ∧ (0 ≤ V 7 3 0 ∧ V 7 3 0 ≤ 9) ∧ (0 ≤ V 7 4 0 ∧ V 7 4 0 ≤ 2) ∧ (1 ≤ V 7 5 0 ∧ V 7 5 0 ≤ 4)) (hs : ∀ k, 0 ≤ k → k < 5 → b01 (V 10 k 0)) : okVw (vBg n V) := by
  obtain ⟨u0, u1, u2, u3, u4, u5⟩ := hu
  refine ⟨?_, ?_, ?_, ?_, fun i a b => ?_, fun i a b => ?_, fun i j a b c d => ?_, fun i j a b c d => ?_, fun i a b => ?_, ?_, ?_, ?_, ?_, ?_, ?_, fun c i q => ?_, fun k a b => ?_, fun k a b => ?_⟩ <;> unfold vBg
  · simpa using hn
  · simp
  · simp
  · simp
  · simp
  · simp
  · simp
  · simp
  · simp
  · simpa using u0
  · simpa using u1
  · simpa using u2
  · simpa using u3
  · simpa using u4
  · simpa using u5
  · simp
  · unfold vBg at b; simp at b; omega
  · simpa using hs k a b
/-- the model's -/
def Mb1 (k : Int) (h : HP) : HP := fun p j => if (p = 127 ∨ p = 128) ∧ 0 ≤ j ∧ j < k then 0 else h p j
def Mb2 (k : Int) (h : HP) : HP := fun p j => if p = 129 ∧ 0 ≤ j ∧ j < k then 1 else h p j
theorem M_begins (h : HP) : m_Md_begins 126 h = some (Mb2 32 (Mb1 8 (upd2 (upd2 (upd2 h 126 1 0) 126 15 0) 126 16 0))) := by
  unfold m_Md_begins
  simp only [bv_some]
  generalize upd2 (upd2 (upd2 h 126 1 0) 126 15 0) 126 16 0 = h
  unfold m_Md_begins_L17
  refine loop_seq (fun k => (k, Mb1 k h)) 0 8 (by omega) (by omega) ?_ (fun k h0 h1 => ?_) ?_
  · refine pr_eq ?_
    funext p j
    unfold Mb1
    rw [if_neg (by omega)]
  · dsimp only
    unfold m_Md_begins_L17b
    simp (disch := omega) only [if_pos, if_neg, bv_some, w32_id, Int.reduceAdd]
    refine in_eq ?_
    funext p j
    unfold Mb1 upd2
    ((try dsimp only); repeat' split) <;> first | rfl | (exfalso; omega)
  · dsimp only
    unfold m_Md_begins_L17b
    simp (disch := omega) only [if_pos]
    generalize Mb1 8 h = h
    have e : m_Md_begins_L45 126 (0, h) = some (Mb2 32 h) := by
      unfold m_Md_begins_L45
      refine loop_seq (fun k => (k, Mb2 k h)) 0 32 (by omega) (by omega) ?_ (fun k h0 h1 => ?_) ?_
      · refine pr_eq ?_
        funext p j
        unfold Mb2
        rw [if_neg (by omega)]
      · dsimp only
        unfold m_Md_begins_L45b
        simp (disch := omega) only [if_pos, if_neg, bv_some, w32_id, Int.reduceAdd]
        refine in_eq ?_
        funext p j
        unfold Mb2 upd2
        ((try dsimp only); repeat' split) <;> first | rfl | (exfalso; omega)
      · dsimp only
        unfold m_Md_begins_L45b
        simp (disch := omega) only [if_pos]
    rw [e]
    rfl
def MB (n : Int) (h : HP) : HP := Mb2 32 (Mb1 8 (upd2 (upd2 (upd2 (upd2 h 126 0 n) 126 1 0) 126 15 0) 126 16 0))
theorem isM_B {n : Int} {h : HP} {V : Vw} (X : (∀ k, 0 ≤ k → k < 6 → h 133 k = V 7 k 0) ∧ (∀ k, 0 ≤ k → k < 5 → h 134 k = V 8 k 0 ∧ h 135 k = V 9 k 0 ∧ h 136 k = V 10 k 0) ∧ (∀ k, 0 ≤ k → k < 8 → h 137 k = V 11 k 0 ∧ h 138 k = V 12 k 0 ∧ h 139 k = V 13 k 0)) : isM (MB n h) (vBg n V) := by
  obtain ⟨x10, x11, x12⟩ := X
  have e : ∀ p j, 133 ≤ p → MB n h p j = h p j := fun p j hp => by
    unfold MB Mb2 Mb1 upd2
    repeat rw [if_neg (by omega)]
  have e' : ∀ f a b, 7 ≤ f → vBg n V f a b = V f a b := fun f a b hf => by
    unfold vBg
    repeat rw [if_neg (by omega)]
  have em : vBg n V 0 1 0 = 0 := by unfold vBg; simp
  unfold isM
  rw [em]
  refine ⟨?_, ?_, ?_, ?_, fun i a b => ?_, fun i a b => ?_, fun i j a b c d => ?_, fun i j a b c d => ?_, fun i a b => ?_, fun i a b => ?_, fun i a b => ?_, fun i a b => ?_, fun i a b => ?_⟩
  · unfold MB Mb2 Mb1 upd2 vBg; simp
  · unfold MB Mb2 Mb1 upd2; simp
  · unfold MB Mb2 Mb1 upd2 vBg; simp
  · unfold MB Mb2 Mb1 upd2 vBg; simp
  · unfold MB Mb2 Mb1 upd2 vBg; rw [if_neg (by omega), if_pos (by omega)]; simp
  · unfold MB Mb2 Mb1 upd2 vBg; rw [if_neg (by omega), if_pos (by omega)]; simp
  · unfold MB Mb2 Mb1 upd2 vBg; rw [if_pos (by omega)]; simp
  · omega
  · omega
  · omega
  · rw [e _ _ (by omega), e' _ _ _ (by omega)]; exact x10 i a b
  · rw [e _ _ (by omega), e _ _ (by omega), e _ _ (by omega), e' _ _ _ (by omega), e' _ _ _ (by omega), e' _ _ _ (by omega)]; exact x11 i a b
  · rw [e _ _ (by omega), e _ _ (by omega), e _ _ (by omega), e' _ _ _ (by omega), e' _ _ _ (by omega), e' _ _ _ (by omega)]; exact x12 i a b
theorem MB_fr {n : Int} {h : HP} {p j : Int} (hp : p < 126 ∨ 130 ≤ p ∨ (p = 126 ∧ j ≠ 0 ∧ j ≠ 1 ∧ j ≠ 15 ∧ j ≠ 16)) : MB n h p j = h p j := by
  unfold MB Mb2 Mb1 upd2
  repeat rw [if_neg (by omega)]
theorem A_items (x : Int) : AA (m_Cb_items 0 x) (m_Md_items 126 x) := by
  rintro h ⟨V, R⟩
  obtain ⟨X, M, K, I, T, P⟩ := id R
  unfold m_Cb_items m_Md_items
  simp only [Int.reduceAdd, Int.zero_add, b1_some, P_in, X_begin, bv_some, M_begins]
  by_cases h1 : 1 ≤ x ∧ x ≤ 8
  · refine ⟨V 0 0 0, Bg 1 x h, MB x (Bg 1 x h), ?_, ?_, vBg x V, ?_, ?_, okVw_Bg h1 K.us K.2.2.2.2.2.2.2.2.2.2.2.2.2.2.2.2.2, frN.rest (h := h) ?_ I T P⟩
    · simp (disch := omega) only [if_pos, if_neg, X.n]
    · simp (disch := omega) only [if_pos, if_neg]
      rw [Bg_fr (by omega), M.n]
      rfl
    · exact isX_cg (fun p j a b => MB_fr (by omega)) (isX_Bg ⟨fun k a b => X.us a b, X.2.2.2.2.2.2.2.2.2.2.2.1, X.2.2.2.2.2.2.2.2.2.2.2.2⟩)
    · have e : ∀ p j, 133 ≤ p → Bg 1 x h p j = h p j := fun p j hp => Bg_fr (by omega)
      refine isM_B ⟨fun k a b => by rw [e _ _ (by omega)]; exact M.us a b, fun k a b => ?_, fun k a b => ?_⟩
      · rw [e _ _ (by omega), e _ _ (by omega), e _ _ (by omega)]; exact M.2.2.2.2.2.2.2.2.2.2.2.1 k a b
      · rw [e _ _ (by omega), e _ _ (by omega), e _ _ (by omega)]; exact M.2.2.2.2.2.2.2.2.2.2.2.2 k a b
    · intro p j a b c d
      rw [MB_fr (by omega), Bg_fr (by omega)]
  · refine ⟨-2, h, h, ?_, ?_, V, R⟩
    · by_cases h2 : x < 1
      · simp (disch := omega) only [if_pos, if_neg, if_true, if_false]
      · simp (disch := omega) only [if_pos, if_neg, if_true, if_false]
    · simp (disch := omega) only [if_pos, if_neg, if_true, if_false]
