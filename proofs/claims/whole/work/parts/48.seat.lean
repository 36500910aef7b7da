/-! PURE: seat, see, plan -/
section Seat
variable {o : Int} {h : HP} {V : Vw}
/-- who sits there, other than one -/
theorem X_whoSits (X : isX o h V) (K : okVw V) (r q : Int) : ∃ w, m_Exam_whoSits o r q h = some w ∧ ((w = -1 ∧ ∀ c, 0 ≤ c → c < V 0 1 0 → ¬ (V 5 c 0 = r ∧ V 6 c 0 = q)) ∨ (0 ≤ w ∧ w < V 0 1 0 ∧ V 5 w 0 = r ∧ V 6 w 0 = q)) := by
  have hm := K.m
  unfold m_Exam_whoSits m_Exam_whoSits_L2
  refine loopO_inv (fun c => 0 ≤ c ∧ c ≤ V 0 1 0 ∧ ∀ d, 0 ≤ d → d < c → ¬ (V 5 d 0 = r ∧ V 6 d 0 = q)) (fun c => 8 - c.toNat) _ ?_ FUEL 0 ⟨by omega, by omega, fun d _ _ => by omega⟩ (by unfold FUEL; omega)
  rintro c ⟨h0, h1, h2⟩
  unfold m_Exam_whoSits_L2b
  by_cases q0 : V 0 1 0 ≤ c
  · right
    refine ⟨-1, by simp (disch := omega) only [X.m, if_pos], Or.inl ⟨rfl, fun d a b => h2 d a (by omega)⟩⟩
  · simp (disch := omega) only [X.m, if_neg, if_pos, X.rw, X.pl, w32_id]
    by_cases q1 : V 5 c 0 = r
    · by_cases q2 : V 6 c 0 = q
      · right
        exact ⟨c, by rw [if_pos q1, if_pos q2], Or.inr ⟨h0, by omega, q1, q2⟩⟩
      · left
        refine ⟨c + 1, by rw [if_pos q1, if_neg q2], ⟨by omega, by omega, fun d a b => ?_⟩, by omega⟩
        by_cases e : d = c
        · rw [e]; exact fun w => q2 w.2
        · exact h2 d a (by omega)
    · left
      refine ⟨c + 1, by rw [if_neg q1], ⟨by omega, by omega, fun d a b => ?_⟩, by omega⟩
      by_cases e : d = c
      · rw [e]; exact fun w => q1 w.1
      · exact h2 d a (by omega)
theorem M_seatN (X : isM h V) (K : okVw V) (x r q d : Int) (hr : 0 ≤ r) (hd : 0 ≤ d ∧ d < V 0 1 0) (hdx : d ≠ x) (e5 : V 5 d 0 = r) (e6 : V 6 d 0 = q) : m_Md_seat_L46 126 x r q h 0 = some (-3, h) := by
  have hm := K.m
  unfold m_Md_seat_L46
  refine loopO_val (fun c => 0 ≤ c ∧ c ≤ d) (fun c => 8 - c.toNat) _ ?_ FUEL 0 ⟨by omega, by omega⟩ (by unfold FUEL; omega)
  rintro c ⟨h0, h1⟩
  unfold m_Md_seat_L46b
  simp (disch := omega) only [X.m, if_neg, if_pos, X.rw, X.pl, w32_id, Int.reduceAdd]
  by_cases q3 : c = x
  · left
    exact ⟨c + 1, by rw [if_pos q3], ⟨by omega, by omega⟩, by omega⟩
  · rw [if_neg q3]
    by_cases q1 : V 5 c 0 = r
    · by_cases q2 : V 6 c 0 = q
      · right
        rw [if_pos q1, if_pos q2]
      · left
        refine ⟨c + 1, by rw [if_pos q1, if_neg q2], ⟨by omega, ?_⟩, by omega⟩
        have : c ≠ d := fun e => q2 (by rw [e]; exact e6)
        omega
    · left
      refine ⟨c + 1, by rw [if_neg q1], ⟨by omega, ?_⟩, by omega⟩
      have : c ≠ d := fun e => q1 (by rw [e]; exact e5)
      omega
theorem M_seatY (X : isM h V) (K : okVw V) (x r q : Int) (hx : 0 ≤ x ∧ x < V 0 1 0) (hf : 0 ≤ r → ∀ d, 0 ≤ d → d < V 0 1 0 → d ≠ x → ¬ (V 5 d 0 = r ∧ V 6 d 0 = q)) : m_Md_seat_L46 126 x r q h 0 = some (1, upd2 (upd2 h 131 x r) 132 x (if 0 ≤ r then q else -1)) := by
  have hm := K.m
  unfold m_Md_seat_L46
  refine loop_seq (fun c => c) 0 (V 0 1 0) (by omega) (by omega) rfl (fun c h0 h1 => ?_) ?_
  · try dsimp only
    unfold m_Md_seat_L46b
    simp (disch := omega) only [X.m, if_neg, if_pos, X.rw, X.pl, w32_id, Int.reduceAdd]
    by_cases q3 : c = x
    · rw [if_pos q3]
    · rw [if_neg q3]
      by_cases q4 : r < 0
      · rw [if_pos q4]
      · rw [if_neg q4]
        have := hf (by omega) c h0 h1 q3
        by_cases q1 : V 5 c 0 = r
        · rw [if_pos q1, if_neg (fun e => this ⟨q1, e⟩)]
        · rw [if_neg q1]
  · try dsimp only
    unfold m_Md_seat_L46b m_Md_seat_J96 m_Md_seat_J117
    simp (disch := omega) only [X.m, if_pos, Int.reduceAdd, bv_some]
    by_cases q4 : 0 ≤ r
    · simp only [if_pos q4, b1_some]
    · simp only [if_neg q4, b1_some]
end Seat
/-- the view after one sat down -/
theorem okVw_seat {V : Vw} (K : okVw V) {x r q : Int} (hx : 0 ≤ x ∧ x < V 0 1 0) (hr : -1 ≤ r ∧ r ≤ 9) (hq : -1 ≤ q ∧ q ≤ 9) (hf : 0 ≤ r → ∀ d, 0 ≤ d → d < V 0 1 0 → d ≠ x → ¬ (V 5 d 0 = r ∧ V 6 d 0 = q)) : okVw (upV (upV V 5 x 0 r) 6 x 0 q) := by
  have hm := K.m
  have e : ∀ f a b, f ≠ 5 → f ≠ 6 → upV (upV V 5 x 0 r) 6 x 0 q f a b = V f a b := fun f a b n n' => by
    unfold upV
    rw [if_neg (by omega), if_neg (by omega)]
  have e5 : ∀ a, upV (upV V 5 x 0 r) 6 x 0 q 5 a 0 = if a = x then r else V 5 a 0 := fun a => by
    unfold upV
    rw [if_neg (by omega)]
    by_cases c : a = x
    · rw [if_pos (by omega), if_pos c]
    · rw [if_neg (by omega), if_neg c]
  have e6 : ∀ a, upV (upV V 5 x 0 r) 6 x 0 q 6 a 0 = if a = x then q else V 6 a 0 := fun a => by
    unfold upV
    by_cases c : a = x
    · rw [if_pos (by omega), if_pos c]
    · rw [if_neg (by omega), if_neg (by omega), if_neg c]
  have hno := K.no
  have hds := K.ds
  unfold okVw at K ⊢
  simp (disch := omega) only [e, e5, e6]
  obtain ⟨x0, x1, x2, x3, x4, x5, x6, x7, x8, x9, x10, x11, x12, x13, x14, x15, x16, x17⟩ := K
  refine ⟨x0, x1, x2, x3, x4, x5, x6, x7, fun c a b => ?_, x9, x10, x11, x12, x13, x14, fun c i z => ?_, x16, x17⟩
  · have k8 := x8 c a b
    refine ⟨?_, ?_, ?_, ?_, fun d a' b' n => ?_⟩
    · split <;> omega
    · split <;> omega
    · split <;> omega
    · split <;> omega
    · by_cases c1 : c = x
      · simp only [if_pos c1, if_neg (show ¬ d = x by omega)]
        intro h0 hh
        by_cases c2 : d < V 0 1 0
        · exact hf h0 d a' c2 (by omega) ⟨hh.1.symm, hh.2.symm⟩
        · have := hno d 0 (by omega)
          omega
      · simp only [if_neg c1]
        by_cases c2 : d = x
        · simp only [if_pos c2]
          intro h0 hh
          by_cases c3 : c < V 0 1 0
          · exact hf (by omega) c a c3 c1 hh
          · have := hno c 0 (by omega)
            omega
        · simp only [if_neg c2]
          exact hds c d a b a' b' n
  · have := x15 c i z
    rw [if_neg (by omega), if_neg (by omega)]
    exact this
theorem A_seat (x r q : Int) : AA (m_Cb_seat 0 x r q) (m_Md_seat 126 x r q) := by
  rintro h ⟨V, R⟩
  obtain ⟨X, M, K, I, T, P⟩ := id R
  have hm := K.m
  have put : ∀ q', (0 ≤ x ∧ x < V 0 1 0) → (-1 ≤ r ∧ r ≤ 9) → (-1 ≤ q' ∧ q' ≤ 9) → (0 ≤ r → ∀ d, 0 ≤ d → d < V 0 1 0 → d ≠ x → ¬ (V 5 d 0 = r ∧ V 6 d 0 = q')) → Rel (upd2 (upd2 (upd2 (upd2 h 22 x r) 23 x q') 131 x r) 132 x q') := fun q' hx hr hq hf =>
    ⟨_, isX_cg (fun p j a b => by rw [upd2_np _ (by omega), upd2_np _ (by omega)]) (isX_put (o := 1) q' (p := 23) (j := x) (f := 6) (a := x) (b := 0) (by unfold atX; omega) (isX_put (o := 1) r (p := 22) (j := x) (f := 5) (a := x) (b := 0) (by unfold atX; omega) X)), isM_put q' (by unfold atM; omega) (isM_put r (by unfold atM; omega) (isM_up (by omega) (isM_up (by omega) M))), okVw_seat K hx hr hq hf, (frN.tr (frN.tr (frN.u (by omega)) (frN.u (by omega))) (frN.tr (frN.u (by omega)) (frN.u (by omega)))).rest I T P⟩
  unfold m_Cb_seat m_Md_seat m_Cb_seat_J78
  simp only [Int.reduceAdd, Int.zero_add, X_hasCandidate X, b1_some, P_in]
  by_cases h1 : 0 ≤ x ∧ x < V 0 1 0
  · by_cases h2 : r = -1
    · subst h2
      refine ⟨1, upd2 (upd2 h 22 x (-1)) 23 x (-1), _, ?_, ?_, put (-1) h1 (by omega) (by omega) (by omega)⟩
      · simp (disch := omega) only [if_pos, if_neg, X_sits, b1_some, Int.reduceAdd, if_true]
      · have M' : isM (upd2 (upd2 h 22 x (-1)) 23 x (-1)) V := isM_up (by omega) (isM_up (by omega) M)
        simp (disch := omega) only [M_isOne M' K, b1_some, if_pos, if_neg]
        rw [M_seatY M' K x (-1) q h1 (by omega)]
        simp (disch := omega) only [if_neg]
    · by_cases h3 : (0 ≤ r ∧ r ≤ 9) ∧ (0 ≤ q ∧ q ≤ 9)
      · obtain ⟨w, ew, hw⟩ := X_whoSits X K r q
        by_cases h4 : 0 ≤ w ∧ w ≠ x
        · refine ⟨-3, h, h, ?_, ?_, V, R⟩
          · simp (disch := omega) only [if_pos, if_neg, ew, b1_some]
          · simp (disch := omega) only [M_isOne M K, b1_some, if_pos, if_neg]
            exact M_seatN M K x r q w (by omega) (by omega) (by omega) (by omega) (by omega)
        · have hf : 0 ≤ r → ∀ d, 0 ≤ d → d < V 0 1 0 → d ≠ x → ¬ (V 5 d 0 = r ∧ V 6 d 0 = q) := fun _ d a b n => by
            rcases hw with ⟨e, f⟩ | ⟨a1, a2, a3, a4⟩
            · exact f d a b
            · have := K.ds d w a (by omega) a1 (by omega) (by omega)
              omega
          refine ⟨1, upd2 (upd2 h 22 x r) 23 x q, _, ?_, ?_, put q h1 (by omega) (by omega) hf⟩
          · simp (disch := omega) only [if_pos, if_neg, ew, b1_some]
            by_cases h5 : w < 0
            · simp (disch := omega) only [if_pos h5, X_sits, b1_some, Int.reduceAdd]
            · simp (disch := omega) only [if_neg h5, if_pos, X_sits, b1_some, Int.reduceAdd]
          · have M' : isM (upd2 (upd2 h 22 x r) 23 x q) V := isM_up (by omega) (isM_up (by omega) M)
            simp (disch := omega) only [M_isOne M' K, b1_some, if_pos, if_neg]
            rw [M_seatY M' K x r q h1 hf]
            simp (disch := omega) only [if_pos]
      · refine ⟨-2, h, h, ?_, ?_, V, R⟩
        · rw [if_neg (by simp [h1]), if_neg h2]
          (repeat' split) <;> first | rfl | (exfalso; omega)
        · simp (disch := omega) only [M_isOne M K, b1_some]
          (repeat' split) <;> first | rfl | (exfalso; omega)
  · refine ⟨-1, h, h, ?_, ?_, V, R⟩
    · simp (disch := omega) only [if_pos, if_neg, if_true, if_false, b1_some]
    · simp (disch := omega) only [M_isOne M K, if_pos, if_neg, if_true, if_false, b1_some]
