/-! PURE: tapes -/
def frT (h h1 : HP) : Prop := ∀ p j, ¬ scr p j → ¬ (114 ≤ p ∧ p ≤ 125) → ¬ (156 ≤ p ∧ p ≤ 163) → h1 p j = h p j
theorem Rl_tp {h h1 : HP} {V : Vw} (f : frT h h1) (R : Rl h V) (P : tpOK h1) : Rl h1 V := by
  obtain ⟨X, M, K, I, T, -⟩ := R
  unfold frT scr at f
  exact ⟨isX_cg (fun p j a b => f _ _ (by omega) (by omega) (by omega)) X, isM_sm ⟨fun j _ => f _ _ (by omega) (by omega) (by omega), fun p j a b => f _ _ (by omega) (by omega) (by omega)⟩ M, K, imOK_cg (f _ _ (by omega) (by omega) (by omega)) (f _ _ (by omega) (by omega) (by omega)) (fun p j a b => f _ _ (by omega) (by omega) (by omega)) (fun j => f _ _ (by omega) (by omega) (by omega)) I, txOK_cg (f _ _ (by omega) (by omega) (by omega)) (f _ _ (by omega) (by omega) (by omega)) (fun i => f _ _ (by omega) (by omega) (by omega)) (fun i => f _ _ (by omega) (by omega) (by omega)) T, P⟩
theorem P_isTapeX (x : Int) (h : HP) : m_Cb_isTape x h = some (if 0 ≤ x ∧ x ≤ 5 then 1 else 0) := by
  unfold m_Cb_isTape
  (repeat' split) <;> first | rfl | (exfalso; omega)
theorem P_isTapeM (x : Int) (h : HP) : m_Md_isTape x h = some (if 0 ≤ x ∧ x ≤ 5 then 1 else 0) := by
  unfold m_Md_isTape
  simp only [P_in, b1_some]
def Tz (p s n k : Int) (h : HP) : HP := fun q j => if q = p ∧ j = 0 then s else if q = p ∧ j = 1 then n else if q = p + 1 ∧ 0 ≤ j ∧ j < k then 0 else h q j
def Mz (t s n k : Int) (h : HP) : HP := fun q j => if q = 162 ∧ j = t then s else if q = 163 ∧ j = t then n else if q = t + 156 ∧ 0 ≤ j ∧ j < k then 0 else h q j
theorem T_begin (p s n : Int) (h : HP) : m_Tape_begin p s n h = some (Tz p s n 60 h) := by
  unfold m_Tape_begin m_Tape_begin_L12
  simp only [bv_some]
  refine loop_seq (fun k => (k, Tz p s n k h)) 0 60 (by omega) (by omega) ?_ (fun k h0 h1 => ?_) ?_
  · refine pr_eq ?_
    funext q j
    unfold Tz upd2
    ((try dsimp only); repeat' split) <;> first | rfl | (exfalso; omega)
  · dsimp only
    unfold m_Tape_begin_L12b
    simp (disch := omega) only [if_pos, if_neg, bv_some, w32_id]
    refine in_eq ?_
    funext q j
    unfold Tz upd2
    ((try dsimp only); repeat' split) <;> first | rfl | (exfalso; omega)
  · dsimp only
    unfold m_Tape_begin_L12b
    simp (disch := omega) only [if_pos]
theorem M_begin (t s n : Int) (h : HP) (ht : 0 ≤ t ∧ t ≤ 5) : m_Md_tape_J47 126 t s n h = some (1, Mz t s (if 0 ≤ s then n else 0) 60 h) := by
  have e : ∀ v, m_Md_tape_J68 126 t 163 t v (upd2 h 162 t s) = some (1, Mz t s v 60 h) := fun v => by
    unfold m_Md_tape_J68 m_Md_tape_L72
    simp (disch := omega) only [if_pos, bv_some]
    refine loop_seq (fun k => (k, Mz t s v k h)) 0 60 (by omega) (by omega) ?_ (fun k h0 h1 => ?_) ?_
    · refine pr_eq ?_
      funext q j
      unfold Mz upd2
      ((try dsimp only); repeat' split) <;> first | rfl | (exfalso; omega)
    · dsimp only
      unfold m_Md_tape_L72b
      simp (disch := omega) only [if_pos, if_neg, bv_some, w32_id]
      refine in_eq ?_
      funext q j
      unfold Mz upd2
      ((try dsimp only); repeat' split) <;> first | rfl | (exfalso; omega)
    · dsimp only
      unfold m_Md_tape_L72b
      simp (disch := omega) only [if_pos]
  unfold m_Md_tape_J47
  simp (disch := omega) only [if_pos, bv_some, Int.reduceAdd, e]
  split <;> rfl
theorem A_tape (t s n : Int) : AA (m_Cb_tape 0 t s n) (m_Md_tape 126 t s n) := by
  rintro h ⟨V, R⟩
  have P := R.2.2.2.2.2
  have put : ∀ s n, 0 ≤ t ∧ t ≤ 5 → -1 ≤ s ∧ s ≤ 4 → 0 ≤ n ∧ n ≤ 60 → (s = -1 → n = 0) → Rel (Mz t s n 60 (Tz (2 * t + 114) s n 60 h)) := fun s n ht hs hn h1 => by
    refine ⟨V, Rl_tp (fun p j a b c => ?_) R (fun u a b => ?_)⟩
    · unfold Mz Tz
      ((try dsimp only); repeat' split) <;> first | rfl | (exfalso; omega)
    · have := P u a b
      by_cases e : u = t
      · subst e
        refine ⟨?_, ?_, ?_, ?_, ?_, ?_, fun q => ?_, fun i q1 q2 => ?_⟩ <;> unfold Mz Tz <;> (try dsimp only)
        · (repeat' split) <;> first | rfl | (exfalso; omega)
        · (repeat' split) <;> first | rfl | (exfalso; omega)
        · rw [if_pos (by omega)]; omega
        · rw [if_pos (by omega)]; omega
        · rw [if_neg (by omega), if_pos (by omega)]; omega
        · rw [if_neg (by omega), if_pos (by omega)]; omega
        · unfold Mz at q
          rw [if_pos (by omega)] at q
          rw [if_neg (by omega), if_pos (by omega)]
          exact h1 q
        · (repeat' split) <;> first | rfl | (exfalso; omega)
      · have e1 : ∀ p j, (p = 2 * u + 114 ∨ p = 2 * u + 115 ∨ p = u + 156 ∨ (162 ≤ p ∧ j = u)) → Mz t s n 60 (Tz (2 * t + 114) s n 60 h) p j = h p j := fun p j hp => by
          unfold Mz Tz
          repeat rw [if_neg (by omega)]
        simp (disch := omega) only [e1]
        exact this
  unfold m_Cb_tape m_Md_tape m_Md_tape_J36
  simp only [Int.zero_add, P_isTapeX, P_isTapeM, P_in, b1_some, T_begin]
  by_cases h1 : 0 ≤ t ∧ t ≤ 5
  · by_cases h2 : s = -1
    · subst h2
      refine ⟨1, Tz (2 * t + 114) (-1) 0 60 h, _, ?_, ?_, put (-1) 0 h1 (by omega) (by omega) (fun _ => rfl)⟩
      · simp (disch := omega) only [if_pos h1, if_pos, if_neg, if_true, if_false]
      · simp (disch := omega) only [if_pos h1, if_pos, if_neg, if_true, if_false, M_begin _ _ _ _ h1]
    · by_cases h3 : (0 ≤ s ∧ s ≤ 4) ∧ n ≤ 60
      · by_cases h4 : 0 ≤ n
        · refine ⟨1, Tz (2 * t + 114) s n 60 h, _, ?_, ?_, put s n h1 (by omega) (by omega) (by omega)⟩
          · simp (disch := omega) only [if_pos h1, if_pos, if_neg, if_true, if_false]
          · simp (disch := omega) only [if_pos h1, if_pos, if_neg, if_true, if_false, M_begin _ _ _ _ h1]
        · refine ⟨-14, h, h, ?_, ?_, V, R⟩
          · simp (disch := omega) only [if_pos h1, if_pos, if_neg, if_true, if_false]
          · simp (disch := omega) only [if_pos h1, if_pos, if_neg, if_true, if_false]
      · refine ⟨-2, h, h, ?_, ?_, V, R⟩
        · rw [if_pos h1]
          (repeat' split) <;> first | rfl | (exfalso; omega)
        · rw [if_pos h1]
          (repeat' split) <;> first | rfl | (exfalso; omega)
  · refine ⟨-1, h, h, ?_, ?_, V, R⟩
    · simp only [if_neg h1, if_true]
    · simp only [if_neg h1, if_true]
theorem A_peek (t i : Int) : PP (m_Cb_peek 0 t i) (m_Md_peek 126 t i) := by
  rintro h ⟨V, R⟩
  have P := R.2.2.2.2.2
  unfold m_Cb_peek m_Md_peek m_Tape_hasPlace
  simp only [Int.zero_add, P_isTapeX, P_isTapeM, P_in, b1_some, Int.reduceAdd]
  by_cases h1 : 0 ≤ t ∧ t ≤ 5
  · obtain ⟨p0, p1, p2, p3, p4, p5, p6, p7⟩ := P t (by omega) (by omega)
    simp (disch := omega) only [if_pos h1, if_pos, if_neg, p1, w32_id]
    by_cases h2 : 0 ≤ i ∧ i < h 163 t
    · have e := p7 i (by omega) (by omega)
      refine ⟨h (t + 156) i, ?_, ?_⟩
      · simp (disch := omega) only [if_pos, if_neg, e, b1_some]
      · rw [show (126 : Int) + t + 30 = t + 156 by omega]
        simp (disch := omega) only [if_pos, if_neg, b1_some]
    · refine ⟨-9223372036854775808, ?_, ?_⟩
      · (repeat' split) <;> first | rfl | (exfalso; omega) | (simp (disch := omega) only [b1_some, if_pos])
      · (repeat' split) <;> first | rfl | (exfalso; omega)
  · exact ⟨-9223372036854775808, by simp only [if_neg h1, if_true], by simp only [if_neg h1, if_true]⟩
theorem X_fitted (p v : Int) (h : HP) (s : Int) (e : h p 0 = s) : m_Tape_fitted p v h = m_Md_fit s v h := by
  unfold m_Tape_fitted m_Md_fit
  rw [e]
theorem fit_some (s v : Int) (h : HP) : ∃ w, ∀ g : HP, m_Md_fit s v g = some w := by
  refine ⟨if s = 0 then i2b (l2i v) else if s = 1 then i2s (l2i v) else if s = 2 then l2i v else if s = 3 then v else if lCmp v 0 = 0 then 0 else 1, fun g => ?_⟩
  unfold m_Md_fit
  (repeat' split) <;> rfl
theorem A_item (t i v : Int) : AA (m_Cb_item 0 t i v) (m_Md_item 126 t i v) := by
  rintro h ⟨V, R⟩
  have P := R.2.2.2.2.2
  unfold m_Cb_item m_Md_item m_Tape_hasPlace m_Tape_holdsNothing
  simp only [Int.zero_add, P_isTapeX, P_isTapeM, P_in, b1_some, Int.reduceAdd, bv_some]
  by_cases h1 : 0 ≤ t ∧ t ≤ 5
  · obtain ⟨p0, p1, p2, p3, p4, p5, p6, p7⟩ := P t (by omega) (by omega)
    obtain ⟨w, hw⟩ := fit_some (h 162 t) v h
    by_cases h0 : h 162 t = -1
    · refine ⟨-11, h, h, ?_, ?_, V, R⟩
      · simp (disch := omega) only [if_pos h1, if_pos, if_neg, if_true, if_false, b1_some, p0]
      · simp (disch := omega) only [if_pos h1, if_pos, if_neg, if_true, if_false, b1_some]
    · by_cases h2 : 0 ≤ i ∧ i < h 163 t
      · refine ⟨1, upd2 h (2 * t + 115) i w, upd2 (upd2 h (2 * t + 115) i w) (t + 156) i w, ?_, ?_, V, Rl_tp (fun p j a b c => ?_) R (fun u a b => ?_)⟩
        · rw [X_fitted _ _ _ _ p0, hw]
          rw [show 2 * t + 114 + 1 = 2 * t + 115 by omega]
          simp (disch := omega) only [if_pos h1, if_pos, if_neg, if_true, if_false, b1_some, p0, p1]
        · rw [show (126 : Int) + t + 30 = t + 156 by omega]
          simp (disch := omega) only [upd2_np, hw, if_pos h1, if_pos, if_neg, if_true, if_false, b1_some, w32_id]
        · rw [upd2_np _ (by omega), upd2_np _ (by omega)]
        · have := P u a b
          have e1 : ∀ p j, (p = 2 * u + 114 ∨ p = 162 ∨ p = 163) → upd2 (upd2 h (2 * t + 115) i w) (t + 156) i w p j = h p j := fun p j hp => by
            rw [upd2_np _ (by omega), upd2_np _ (by omega)]
          simp (disch := omega) only [e1]
          refine ⟨this.1, this.2.1, this.2.2.1, this.2.2.2.1, this.2.2.2.2.1, this.2.2.2.2.2.1, this.2.2.2.2.2.2.1, fun k q1 q2 => ?_⟩
          have := this.2.2.2.2.2.2.2 k q1 q2
          unfold upd2
          ((try dsimp only); repeat' split) <;> first | rfl | (exfalso; omega) | exact this
      · refine ⟨-13, h, h, ?_, ?_, V, R⟩
        · simp (disch := omega) only [if_pos h1, if_pos, if_neg, if_true, if_false, b1_some, p0, p1]
          (repeat' split) <;> first | rfl | (exfalso; omega) | (simp (disch := omega) only [b1_some, if_pos])
        · simp (disch := omega) only [if_pos h1, if_pos, if_neg, if_true, if_false, b1_some, w32_id]
  · refine ⟨-1, h, h, ?_, ?_, V, R⟩
    · simp only [if_neg h1, if_true]
    · simp only [if_neg h1, if_true]
