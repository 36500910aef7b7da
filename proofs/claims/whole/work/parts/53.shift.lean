/-! PURE: shift -/
def Mv1 (t i k : Int) (h : HP) : HP := fun p j => if p = 164 ∧ 0 ≤ j ∧ j < k then h (t + 156) (i + j) else h p j
def Mv2 (u j0 k : Int) (h : HP) : HP := fun p j => if p = u + 156 ∧ j0 ≤ j ∧ j < j0 + k then h 164 (j - j0) else h p j
theorem M_move (t i u j n : Int) (h : HP) (ht : 0 ≤ t ∧ t ≤ 5) (hu : 0 ≤ u ∧ u ≤ 5) (hi : 0 ≤ i ∧ 0 ≤ n ∧ i + n ≤ 60) (hj : 0 ≤ j ∧ j + n ≤ 60) : m_Md_shift_L124 126 t i u j n (0, h) = some (n, Mv2 u j n (Mv1 t i n h)) := by
  unfold m_Md_shift_L124
  refine loop_seq (fun k => (k, Mv1 t i k h)) 0 n (by omega) (by omega) ?_ (fun k h0 h1 => ?_) ?_
  · refine pr_eq ?_
    funext q j
    unfold Mv1
    rw [if_neg (by omega)]
  · dsimp only
    unfold m_Md_shift_L124b
    simp (disch := omega) only [if_pos, if_neg, bv_some, w32_id, Int.reduceAdd]
    refine in_eq ?_
    funext q j
    rw [show (126 : Int) + t + 30 = t + 156 by omega]
    unfold Mv1 upd2
    ((try dsimp only); repeat' split) <;> first | rfl | (exfalso; omega) | (congr 1; omega)
  · dsimp only
    unfold m_Md_shift_L124b
    simp (disch := omega) only [if_pos]
    generalize Mv1 t i n h = h
    have e : m_Md_shift_L158 126 u j n (0, h) = some (n, Mv2 u j n h) := by
      unfold m_Md_shift_L158
      refine loop_seq (fun k => (k, Mv2 u j k h)) 0 n (by omega) (by omega) ?_ (fun k h0 h1 => ?_) ?_
      · refine pr_eq ?_
        funext q j
        unfold Mv2
        rw [if_neg (by omega)]
      · dsimp only
        unfold m_Md_shift_L158b
        simp (disch := omega) only [if_pos, if_neg, bv_some, w32_id, Int.reduceAdd]
        refine in_eq ?_
        funext q l
        rw [show (126 : Int) + u + 30 = u + 156 by omega]
        unfold Mv2 upd2
        ((try dsimp only); repeat' split) <;> first | rfl | (exfalso; omega) | (congr 1; omega)
      · dsimp only
        unfold m_Md_shift_L158b
        simp (disch := omega) only [if_pos]
    rw [e]
    rfl
theorem T_holds (p : Int) (h : HP) : m_Tape_holdsNothing p h = some (if h p 0 = -1 then 1 else 0) := by
  unfold m_Tape_holdsNothing
  split <;> rfl
theorem T_stretch (p i n s : Int) (h : HP) (e : h p 1 = s) (hs : 0 ≤ s ∧ s ≤ 60) : m_Tape_hasStretch p i n h = some (if 0 ≤ n ∧ n ≤ s ∧ 0 ≤ i ∧ i ≤ s - n then 1 else 0) := by
  unfold m_Tape_hasStretch
  rw [e]
  by_cases c : 0 ≤ n ∧ n ≤ s
  · simp (disch := omega) only [w32_id]
    (repeat' split) <;> first | rfl | (exfalso; omega)
  · (repeat' split) <;> first | rfl | (exfalso; omega)
/-- the class's shift, between tapes -/
theorem X_shift (t i u j n s1 s2 : Int) (h : HP) (ht : 0 ≤ t ∧ t ≤ 5) (hu : 0 ≤ u ∧ u ≤ 5) (e1 : h (2 * t + 114) 1 = s1) (e2 : h (2 * u + 114) 1 = s2) (z1 : 0 ≤ s1 ∧ s1 ≤ 60) (z2 : 0 ≤ s2 ∧ s2 ≤ 60) : m_Cb_shift 0 t i u j n h =
    if h (2 * t + 114) 0 = -1 ∨ h (2 * u + 114) 0 = -1 then some (-11, h) else if ¬ h (2 * t + 114) 0 = h (2 * u + 114) 0 then some (-12, h)
    else if (0 ≤ n ∧ n ≤ s1 ∧ 0 ≤ i ∧ i ≤ s1 - n) ∧ (0 ≤ n ∧ n ≤ s2 ∧ 0 ≤ j ∧ j ≤ s2 - n) then some (n, blit h (2 * t + 115) i (2 * u + 115) j n) else some (-13, h) := by
  unfold m_Cb_shift
  simp only [Int.zero_add, P_isTapeX, b1_some, bv_some, T_holds, T_stretch _ _ _ _ _ e1 z1, T_stretch _ _ _ _ _ e2 z2, if_pos ht, if_pos hu]
  rw [if_neg (by omega), if_neg (by omega), if_pos (by omega), if_pos (by omega)]
  rw [show 2 * t + 114 + 1 = 2 * t + 115 by omega, show 2 * u + 114 + 1 = 2 * u + 115 by omega]
  generalize blit h (2 * t + 115) i (2 * u + 115) j n = g
  (repeat' split) <;> first | rfl | (exfalso; omega)
/-- the model's -/
theorem M_shift (t i u j n : Int) (h : HP) (ht : 0 ≤ t ∧ t ≤ 5) (hu : 0 ≤ u ∧ u ≤ 5) (z1 : 0 ≤ h 163 t ∧ h 163 t ≤ 60) (z2 : 0 ≤ h 163 u ∧ h 163 u ≤ 60) (y1 : -1 ≤ h 162 t) (y2 : -1 ≤ h 162 u) : m_Md_shift 126 t i u j n h =
    if h 162 t = -1 ∨ h 162 u = -1 then some (-11, h) else if ¬ h 162 t = h 162 u then some (-12, h)
    else if (0 ≤ n ∧ n ≤ h 163 t ∧ 0 ≤ i ∧ i ≤ h 163 t - n) ∧ (0 ≤ n ∧ n ≤ h 163 u ∧ 0 ≤ j ∧ j ≤ h 163 u - n) then some (n, Mv2 u j n (Mv1 t i n h)) else some (-13, h) := by
  have mv : ((0 ≤ n ∧ n ≤ h 163 t ∧ 0 ≤ i ∧ i ≤ h 163 t - n) ∧ (0 ≤ n ∧ n ≤ h 163 u ∧ 0 ≤ j ∧ j ≤ h 163 u - n)) → m_Md_shift_L124 126 t i u j n (0, h) = some (n, Mv2 u j n (Mv1 t i n h)) := fun c => M_move t i u j n _ ht hu (by omega) (by omega)
  unfold m_Md_shift
  simp only [P_isTapeM, b1_some, if_pos ht, if_pos hu, Int.reduceAdd]
  rw [if_neg (by omega), if_neg (by omega), if_pos (by omega)]
  by_cases c1 : h 162 t < 0
  · rw [if_pos c1, if_pos (by omega)]
  · rw [if_neg c1, if_pos (by omega)]
    by_cases c2 : 0 ≤ h 162 u
    · rw [if_pos c2, if_pos (by omega), if_pos (by omega), if_neg (show ¬ (h 162 t = -1 ∨ h 162 u = -1) by omega)]
      by_cases c3 : h 162 t = h 162 u
      · rw [if_pos c3, if_neg (show ¬ ¬ h 162 t = h 162 u from fun f => f c3)]
        by_cases c4 : 0 ≤ n ∧ n ≤ h 163 t ∧ n ≤ h 163 u
        · have w1 : w32 (h 163 t - n) = h 163 t - n := w32_id (by omega) (by omega)
          have w2 : w32 (h 163 u - n) = h 163 u - n := w32_id (by omega) (by omega)
          simp only [w1, w2]
          by_cases c5 : (0 ≤ n ∧ n ≤ h 163 t ∧ 0 ≤ i ∧ i ≤ h 163 t - n) ∧ (0 ≤ n ∧ n ≤ h 163 u ∧ 0 ≤ j ∧ j ≤ h 163 u - n)
          · rw [mv c5, if_pos c5]
            (repeat' split) <;> first | rfl | (exfalso; omega)
          · rw [if_neg c5]
            (repeat' split) <;> first | rfl | (exfalso; omega)
        · rw [if_neg (show ¬ ((0 ≤ n ∧ n ≤ h 163 t ∧ 0 ≤ i ∧ i ≤ h 163 t - n) ∧ (0 ≤ n ∧ n ≤ h 163 u ∧ 0 ≤ j ∧ j ≤ h 163 u - n)) by omega)]
          (repeat' split) <;> first | rfl | (exfalso; omega)
      · rw [if_neg c3, if_pos c3]
    · rw [if_neg c2, if_pos (by omega)]
theorem A_shift (t i u j n : Int) : AA (m_Cb_shift 0 t i u j n) (m_Md_shift 126 t i u j n) := by
  rintro h ⟨V, R⟩
  have P := R.2.2.2.2.2
  by_cases h1 : 0 ≤ t ∧ t ≤ 5
  · by_cases h2 : 0 ≤ u ∧ u ≤ 5
    · obtain ⟨p0, p1, p2, p3, p4, p5, p6, p7⟩ := P t (by omega) (by omega)
      obtain ⟨q0, q1, q2, q3, q4, q5, q6, q7⟩ := P u (by omega) (by omega)
      rw [X_shift t i u j n _ _ h h1 h2 p1 q1 ⟨p4, p5⟩ ⟨q4, q5⟩, p0, q0]
      by_cases c1 : h 162 t = -1 ∨ h 162 u = -1
      · exact ⟨-11, h, h, by rw [if_pos c1], by rw [M_shift t i u j n h h1 h2 ⟨p4, p5⟩ ⟨q4, q5⟩ p2 q2, if_pos c1], V, R⟩
      · by_cases c3 : h 162 t = h 162 u
        · by_cases c4 : (0 ≤ n ∧ n ≤ h 163 t ∧ 0 ≤ i ∧ i ≤ h 163 t - n) ∧ (0 ≤ n ∧ n ≤ h 163 u ∧ 0 ≤ j ∧ j ≤ h 163 u - n)
          · refine ⟨n, blit h (2 * t + 115) i (2 * u + 115) j n, Mv2 u j n (Mv1 t i n (blit h (2 * t + 115) i (2 * u + 115) j n)), by rw [if_neg c1, if_neg (fun f => f c3), if_pos c4], ?_, V, Rl_tp (fun p k a b c => ?_) R (fun w a b => ?_)⟩
            · have eb : ∀ q k, 126 ≤ q → blit h (2 * t + 115) i (2 * u + 115) j n q k = h q k := fun q k hq => by
                unfold blit
                rw [if_neg (by omega)]
              rw [M_shift t i u j n _ h1 h2 (by rw [eb _ _ (by omega)]; exact ⟨p4, p5⟩) (by rw [eb _ _ (by omega)]; exact ⟨q4, q5⟩) (by rw [eb _ _ (by omega)]; exact p2) (by rw [eb _ _ (by omega)]; exact q2)]
              simp (disch := omega) only [eb]
              rw [if_neg c1, if_neg (fun f => f c3), if_pos c4]
            · have e : p ≠ 164 := fun e => a (by unfold scr; omega)
              unfold Mv2 Mv1 blit
              ((try dsimp only); repeat' split) <;> first | rfl | (exfalso; omega)
            · have := P w a b
              have e1 : ∀ p k, (p = 162 ∨ p = 163 ∨ (p = 2 * w + 114)) → Mv2 u j n (Mv1 t i n (blit h (2 * t + 115) i (2 * u + 115) j n)) p k = h p k := fun p k hp => by
                unfold Mv2 Mv1 blit
                repeat rw [if_neg (by omega)]
              simp (disch := omega) only [e1]
              refine ⟨this.1, this.2.1, this.2.2.1, this.2.2.2.1, this.2.2.2.2.1, this.2.2.2.2.2.1, this.2.2.2.2.2.2.1, fun k r1 r2 => ?_⟩
              have ek := this.2.2.2.2.2.2.2 k r1 r2
              have l : Mv2 u j n (Mv1 t i n (blit h (2 * t + 115) i (2 * u + 115) j n)) (2 * w + 115) k = if w = u ∧ j ≤ k ∧ k < j + n then h (2 * t + 115) (i + (k - j)) else h (2 * w + 115) k := by
                unfold Mv2 Mv1 blit
                ((try dsimp only); repeat' split) <;> first | rfl | (exfalso; omega)
              have r : Mv2 u j n (Mv1 t i n (blit h (2 * t + 115) i (2 * u + 115) j n)) (w + 156) k = if w = u ∧ j ≤ k ∧ k < j + n then h (t + 156) (i + (k - j)) else h (w + 156) k := by
                unfold Mv2 Mv1 blit
                ((try dsimp only); repeat' split) <;> first | rfl | (exfalso; omega)
              rw [l, r]
              split
              · exact p7 _ (by omega) (by omega)
              · exact ek
          · exact ⟨-13, h, h, by rw [if_neg c1, if_neg (fun f => f c3), if_neg c4], by rw [M_shift t i u j n h h1 h2 ⟨p4, p5⟩ ⟨q4, q5⟩ p2 q2, if_neg c1, if_neg (fun f => f c3), if_neg c4], V, R⟩
        · exact ⟨-12, h, h, by rw [if_neg c1, if_pos c3], by rw [M_shift t i u j n h h1 h2 ⟨p4, p5⟩ ⟨q4, q5⟩ p2 q2, if_neg c1, if_pos c3], V, R⟩
    · refine ⟨-1, h, h, ?_, ?_, V, R⟩
      · unfold m_Cb_shift
        simp only [P_isTapeX, b1_some, if_pos h1, if_neg h2, if_true]
        rfl
      · unfold m_Md_shift
        simp only [P_isTapeM, b1_some, if_pos h1, if_neg h2, if_true]
        rfl
  · refine ⟨-1, h, h, ?_, ?_, V, R⟩
    · unfold m_Cb_shift
      simp only [P_isTapeX, b1_some, if_neg h1, if_true]
    · unfold m_Md_shift
      simp only [P_isTapeM, b1_some, if_neg h1, if_true]
