/-! PURE: the calls that write -/
theorem upd2_eq (h : HP) (p i v : Int) : upd2 h p i v p i = v := by unfold upd2; rw [if_pos ⟨rfl, rfl⟩]
theorem upd2_np (h : HP) {p i v q j : Int} (n : q ≠ p) : upd2 h p i v q j = h q j := by unfold upd2; rw [if_neg (fun c => n c.1)]
theorem upd2_nj (h : HP) {p i v q j : Int} (n : j ≠ i) : upd2 h p i v q j = h q j := by unfold upd2; rw [if_neg (fun c => n c.2)]
def upV (V : Vw) (f a b v : Int) : Vw := fun f' a' b' => if f' = f ∧ a' = a ∧ b' = b then v else V f' a' b'
theorem isX_cg {h h1 : HP} {V : Vw} {o : Int} (e : ∀ p j, o ≤ p → p ≤ o + 29 → h1 p j = h p j) (X : isX o h V) : isX o h1 V := by
  unfold isX at X ⊢
  obtain ⟨x0, x1, x2, x3, x4, x5, x6, x7, x8, x9, x10, x11, x12⟩ := X
  refine ⟨?_, ?_, ?_, ?_, fun i a b => ?_, fun i a b => ?_, fun i j a b c d => ?_, fun i j a b c d => ?_, fun i a b => ?_, fun i a b => ?_, fun i a b => ?_, fun i a b => ?_, fun i a b => ?_⟩
  · rw [e _ _ (by omega) (by omega)]; exact x0
  · rw [e _ _ (by omega) (by omega)]; exact x1
  · rw [e _ _ (by omega) (by omega)]; exact x2
  · rw [e _ _ (by omega) (by omega)]; exact x3
  · rw [e _ _ (by omega) (by omega)]; exact x4 i a b
  · rw [e _ _ (by omega) (by omega)]; exact x5 i a b
  · rw [e _ _ (by omega) (by omega)]; exact x6 i j a b c d
  · rw [e _ _ (by omega) (by omega)]; exact x7 i j a b c d
  · rw [e _ _ (by omega) (by omega)]; exact x8 i a b
  · rw [e _ _ (by omega) (by omega)]; exact x9 i a b
  · rw [e _ _ (by omega) (by omega)]; exact x10 i a b
  · rw [e _ _ (by omega) (by omega), e _ _ (by omega) (by omega), e _ _ (by omega) (by omega)]; exact x11 i a b
  · rw [e _ _ (by omega) (by omega), e _ _ (by omega) (by omega), e _ _ (by omega) (by omega)]; exact x12 i a b
theorem imOK_cg {h h1 : HP} (e0 : h1 0 3 = h 0 3) (e1 : h1 126 20 = h 126 20) (e : ∀ p j, 31 ≤ p → p ≤ 60 → h1 p j = h p j) (e2 : ∀ j, h1 141 j = h 141 j) (X : imOK h) : imOK h1 := by
  obtain ⟨a, b, c⟩ := X
  refine ⟨by rwa [e0], by rw [e0, e1]; exact b, fun q => ?_⟩
  obtain ⟨W, x, y, z⟩ := c (by rwa [e0] at q)
  exact ⟨W, isX_cg (fun p j a b => e p j (by omega) (by omega)) x, isI_sm e2 y, z⟩
theorem txOK_cg {h h1 : HP} (e : h1 91 0 = h 91 0) (e1 : h1 126 18 = h 126 18) (e2 : ∀ i, h1 92 i = h 92 i) (e3 : ∀ i, h1 140 i = h 140 i) (X : txOK h) : txOK h1 := by
  unfold txOK at X ⊢
  simpa only [e, e1, e2, e3] using X
theorem tpOK_cg {h h1 : HP} (e : ∀ p j, 114 ≤ p → p ≤ 125 → h1 p j = h p j) (e' : ∀ p j, 156 ≤ p → p ≤ 163 → h1 p j = h p j) (X : tpOK h) : tpOK h1 := by
  intro t a b
  have e0 : ∀ j, h1 (2 * t + 114) j = h (2 * t + 114) j := fun j => e _ _ (by omega) (by omega)
  have e1 : ∀ j, h1 (2 * t + 115) j = h (2 * t + 115) j := fun j => e _ _ (by omega) (by omega)
  have e2 : ∀ j, h1 162 j = h 162 j := fun j => e' _ _ (by omega) (by omega)
  have e3 : ∀ j, h1 163 j = h 163 j := fun j => e' _ _ (by omega) (by omega)
  have e4 : ∀ j, h1 (t + 156) j = h (t + 156) j := fun j => e' _ _ (by omega) (by omega)
  have := X t a b
  simpa only [e0, e1, e2, e3, e4] using this
/-- a call that writes into now and the model's exam alone -/
def frN (h h1 : HP) : Prop := ∀ p j, ¬ scr p j → ¬ (1 ≤ p ∧ p ≤ 30) → ¬ (p = 126 ∧ (j ≤ 1 ∨ j = 15 ∨ j = 16)) → ¬ (127 ≤ p ∧ p ≤ 139) → h1 p j = h p j
theorem frN.rest {h h1 : HP} (f : frN h h1) (I : imOK h) (T : txOK h) (P : tpOK h) : imOK h1 ∧ txOK h1 ∧ tpOK h1 := by
  unfold frN scr at f
  refine ⟨imOK_cg (f _ _ ?_ ?_ ?_ ?_) (f _ _ ?_ ?_ ?_ ?_) (fun p j a b => f _ _ ?_ ?_ ?_ ?_) (fun j => f _ _ ?_ ?_ ?_ ?_) I, txOK_cg (f _ _ ?_ ?_ ?_ ?_) (f _ _ ?_ ?_ ?_ ?_) (fun i => f _ _ ?_ ?_ ?_ ?_) (fun i => f _ _ ?_ ?_ ?_ ?_) T, tpOK_cg (fun p j a b => f _ _ ?_ ?_ ?_ ?_) (fun p j a b => f _ _ ?_ ?_ ?_ ?_) P⟩ <;> omega
theorem frN.u {h : HP} {p i v : Int} (hp : (1 ≤ p ∧ p ≤ 30) ∨ (p = 126 ∧ (i ≤ 1 ∨ i = 15 ∨ i = 16)) ∨ (127 ≤ p ∧ p ≤ 139)) : frN h (upd2 h p i v) := by
  intro q j a b c d
  unfold upd2
  rw [if_neg (by omega)]
theorem frN.tr {h h1 h2 : HP} (a : frN h h1) (b : frN h1 h2) : frN h h2 := fun p j n n1 n2 n3 => (b p j n n1 n2 n3).trans (a p j n n1 n2 n3)
theorem isM_up {h : HP} {V : Vw} {p i v : Int} (hp : p < 126 ∨ 140 ≤ p) (X : isM h V) : isM (upd2 h p i v) V :=
  isM_sm ⟨fun j _ => upd2_np h (by omega), fun q j a b => upd2_np h (by omega)⟩ X
theorem put_eq {α : Type} {P Q : Prop} [Decidable P] [Decidable Q] {v x y : α} (i : P ↔ Q) (e : x = y) : (if P then v else x) = (if Q then v else y) := by
  by_cases q : Q
  · rw [if_pos q, if_pos (i.2 q)]
  · rw [if_neg q, if_neg (fun c => q (i.1 c)), e]
/-- where the class keeps what the view calls f a b -/
def atX (o p j f a b : Int) : Prop :=
  (f = 0 ∧ b = 0 ∧ p = o ∧ j = a ∧ 0 ≤ a ∧ a ≤ 3) ∨ (f = 1 ∧ b = 0 ∧ p = o + 1 ∧ j = a) ∨ (f = 2 ∧ b = 0 ∧ p = o + 2 ∧ j = a) ∨
  (f = 3 ∧ p = o + a + 4 ∧ j = b ∧ 0 ≤ a ∧ a < 8) ∨ (f = 4 ∧ p = o + a + 13 ∧ j = b ∧ 0 ≤ a ∧ a < 8) ∨
  (5 ≤ f ∧ f ≤ 13 ∧ b = 0 ∧ p = o + f + 16 ∧ j = a)
def atM (p j f a b : Int) : Prop :=
  (f = 0 ∧ b = 0 ∧ p = 126 ∧ ((j = 0 ∧ a = 0) ∨ (j = 15 ∧ a = 2) ∨ (j = 16 ∧ a = 3))) ∨ (f = 1 ∧ b = 0 ∧ p = 127 ∧ j = a) ∨ (f = 2 ∧ b = 0 ∧ p = 128 ∧ j = a) ∨
  (f = 3 ∧ p = 129 ∧ j = 4 * a + b ∧ 0 ≤ b ∧ b < 4) ∨ (f = 4 ∧ p = 130 ∧ j = 8 * a + b ∧ 0 ≤ b ∧ b < 8) ∨
  (5 ≤ f ∧ f ≤ 13 ∧ b = 0 ∧ p = f + 126 ∧ j = a)
theorem isX_put {o : Int} {h : HP} {V : Vw} {p j f a b : Int} (v : Int) (w : atX o p j f a b) (X : isX o h V) : isX o (upd2 h p j v) (upV V f a b v) := by
  unfold isX at X ⊢
  unfold atX at w
  unfold upd2 upV
  obtain ⟨x0, x1, x2, x3, x4, x5, x6, x7, x8, x9, x10, x11, x12⟩ := X
  exact ⟨put_eq (by omega) x0, put_eq (by omega) x1, put_eq (by omega) x2, put_eq (by omega) x3, fun i q1 q2 => put_eq (by omega) (x4 i q1 q2), fun i q1 q2 => put_eq (by omega) (x5 i q1 q2), fun i k q1 q2 q3 q4 => put_eq (by omega) (x6 i k q1 q2 q3 q4), fun i k q1 q2 q3 q4 => put_eq (by omega) (x7 i k q1 q2 q3 q4), fun i q1 q2 => put_eq (by omega) (x8 i q1 q2), fun i q1 q2 => put_eq (by omega) (x9 i q1 q2), fun i q1 q2 => put_eq (by omega) (x10 i q1 q2), fun i q1 q2 => ⟨put_eq (by omega) (x11 i q1 q2).1, put_eq (by omega) (x11 i q1 q2).2.1, put_eq (by omega) (x11 i q1 q2).2.2⟩, fun i q1 q2 => ⟨put_eq (by omega) (x12 i q1 q2).1, put_eq (by omega) (x12 i q1 q2).2.1, put_eq (by omega) (x12 i q1 q2).2.2⟩⟩
theorem isM_put {h : HP} {V : Vw} {p j f a b : Int} (v : Int) (w : atM p j f a b) (X : isM h V) : isM (upd2 h p j v) (upV V f a b v) := by
  have em : upV V f a b v 0 1 0 = V 0 1 0 := by
    unfold atM at w
    unfold upV
    rw [if_neg (by omega)]
  unfold isM at X ⊢
  rw [em]
  unfold atM at w
  unfold upd2 upV
  obtain ⟨x0, x1, x2, x3, x4, x5, x6, x7, x8, x9, x10, x11, x12⟩ := X
  exact ⟨put_eq (by omega) x0, (by rw [if_neg (by omega)]; exact x1), put_eq (by omega) x2, put_eq (by omega) x3, fun i q1 q2 => put_eq (by omega) (x4 i q1 q2), fun i q1 q2 => put_eq (by omega) (x5 i q1 q2), fun i k q1 q2 q3 q4 => put_eq (by omega) (x6 i k q1 q2 q3 q4), fun i k q1 q2 q3 q4 => put_eq (by omega) (x7 i k q1 q2 q3 q4), fun i q1 q2 => put_eq (by omega) (x8 i q1 q2), fun i q1 q2 => put_eq (by omega) (x9 i q1 q2), fun i q1 q2 => put_eq (by omega) (x10 i q1 q2), fun i q1 q2 => ⟨put_eq (by omega) (x11 i q1 q2).1, put_eq (by omega) (x11 i q1 q2).2.1, put_eq (by omega) (x11 i q1 q2).2.2⟩, fun i q1 q2 => ⟨put_eq (by omega) (x12 i q1 q2).1, put_eq (by omega) (x12 i q1 q2).2.1, put_eq (by omega) (x12 i q1 q2).2.2⟩⟩
/-- a number that f a b may hold -/
def rgV (V : Vw) (f a b v : Int) : Prop :=
  (f = 1 ∧ 0 ≤ v ∧ v ≤ 3) ∨ (f = 2 ∧ 0 ≤ v ∧ v ≤ 3) ∨ (f = 3 ∧ 1 ≤ v ∧ v ≤ 3) ∨ (f = 4 ∧ -1 ≤ v ∧ v ≤ 3 ∧ a < V 0 1 0) ∨
  (f = 7 ∧ b = 0 ∧ (a = 0 → 0 ≤ v ∧ v ≤ 3) ∧ (a = 1 → 0 ≤ v ∧ v ≤ 3) ∧ (a = 2 → 1 ≤ v ∧ v ≤ 500) ∧ (a = 3 → 0 ≤ v ∧ v ≤ 9) ∧ (a = 4 → 0 ≤ v ∧ v ≤ 2) ∧ (a = 5 → 1 ≤ v ∧ v ≤ 4))
theorem rg_eq {a lo hi v : Int} {P : Prop} [Decidable P] (i : P → lo ≤ v ∧ v ≤ hi) (e : lo ≤ a ∧ a ≤ hi) : lo ≤ (if P then v else a) ∧ (if P then v else a) ≤ hi := by
  by_cases q : P
  · rw [if_pos q]; exact i q
  · rw [if_neg q]; exact e
theorem okVw_put {V : Vw} {f a b v : Int} (w : rgV V f a b v) (K : okVw V) : okVw (upV V f a b v) := by
  have e0 : ∀ k i, upV V f a b v 0 k i = V 0 k i := fun k i => by
    unfold rgV at w
    unfold upV
    rw [if_neg (by omega)]
  have e1 : ∀ g k i, 10 ≤ g → upV V f a b v g k i = V g k i := fun g k i hg => by
    unfold rgV at w
    unfold upV
    rw [if_neg (by omega)]
  unfold okVw at K ⊢
  simp only [e0]
  obtain ⟨x0, x1, x2, x3, x4, x5, x6, x7, x8, x9, x10, x11, x12, x13, x14, x15, x16, x17⟩ := K
  unfold rgV at w
  refine ⟨x0, x1, x2, x3, fun i q1 q2 => ?_, fun i q1 q2 => ?_, fun i k q1 q2 q3 q4 => ?_, fun i k q1 q2 q3 q4 => ?_, fun i q1 q2 => ?_, ?_, ?_, ?_, ?_, ?_, ?_, fun c i q => ?_, fun k q1 q2 => ?_, fun k q1 q2 => ?_⟩
  · exact rg_eq (by omega) (x4 i q1 q2)
  · exact rg_eq (by omega) (x5 i q1 q2)
  · exact rg_eq (by omega) (x6 i k q1 q2 q3 q4)
  · exact rg_eq (by omega) (x7 i k q1 q2 q3 q4)
  · have e5 : ∀ g k, 5 ≤ g → g ≤ 6 → upV V f a b v g k 0 = V g k 0 := fun g k h1 h2 => by
      unfold upV
      rw [if_neg (by omega)]
    simp (disch := omega) only [e5]
    exact x8 i q1 q2
  · exact rg_eq (by omega) x9
  · exact rg_eq (by omega) x10
  · exact rg_eq (by omega) x11
  · exact rg_eq (by omega) x12
  · exact rg_eq (by omega) x13
  · exact rg_eq (by omega) x14
  · have := x15 c i q
    unfold upV
    rw [if_neg (by omega), if_neg (by omega), if_neg (by omega)]
    exact this
  · rw [e1 _ _ _ (by omega), e1 _ _ _ (by omega), e1 _ _ _ (by omega)]
    exact x16 k q1 q2
  · rw [e1 _ _ _ (by omega)]
    exact x17 k q1 q2
/-- one number, written on both sides -/
theorem Rl_put {h : HP} {V : Vw} {p j p' j' f a b v : Int} (R : Rl h V) (w : atX 1 p j f a b) (hp : 1 ≤ p ∧ p ≤ 30) (w' : atM p' j' f a b) (g : rgV V f a b v) : Rl (upd2 (upd2 h p j v) p' j' v) (upV V f a b v) := by
  obtain ⟨X, M, K, I, T, P⟩ := R
  have hq : (p' = 126 ∧ (j' ≤ 1 ∨ j' = 15 ∨ j' = 16)) ∨ (127 ≤ p' ∧ p' ≤ 139) := by
    unfold atM at w'
    omega
  have hq' : 126 ≤ p' := by omega
  refine ⟨isX_cg (fun q k a b => upd2_np _ (by omega)) (isX_put v w X), isM_put v w' (isM_up (by omega) M), okVw_put g K, (frN.tr (frN.u (by omega)) (frN.u (by omega))).rest I T P⟩
theorem A_right (x y : Int) : AA (m_Cb_right 0 x y) (m_Md_right 126 x y) := by
  rintro h ⟨V, R⟩
  obtain ⟨X, M, K, I, T, P⟩ := id R
  have hn := K.n
  unfold m_Cb_right m_Md_right m_Cb_isAnswer
  simp only [Int.reduceAdd, X_hasItem X, b1_some, P_in]
  by_cases h1 : 0 ≤ x ∧ x < V 0 0 0
  · by_cases h2 : 0 ≤ y ∧ y ≤ 3
    · have e1 := X.ky (i := x) (by omega) (by omega)
      simp only [Int.reduceAdd] at e1
      have M' : isM (upd2 h 2 x y) V := isM_up (by omega) M
      refine ⟨V 1 x 0, upd2 h 2 x y, upd2 (upd2 h 2 x y) 127 x y, ?_, ?_, upV V 1 x 0 y, Rl_put R ?_ ?_ ?_ ?_⟩
      · simp (disch := omega) only [if_pos, if_neg, bv_some, b1_some, e1]
      · simp (disch := omega) only [M_isItem M' K, if_pos, if_neg, bv_some, b1_some, M'.ky]
      · unfold atX; omega
      · omega
      · unfold atM; omega
      · unfold rgV; omega
    · refine ⟨-2, h, h, ?_, ?_, V, R⟩
      · by_cases h3 : y < 0
        · simp (disch := omega) only [if_pos, if_neg, if_true, if_false, b1_some]
        · simp (disch := omega) only [if_pos, if_neg, if_true, if_false, b1_some]
      · simp (disch := omega) only [M_isItem M K, if_pos, if_neg, if_true, if_false, b1_some]
  · refine ⟨-1, h, h, ?_, ?_, V, R⟩
    · simp (disch := omega) only [if_pos, if_neg, if_true, if_false, b1_some]
    · simp (disch := omega) only [M_isItem M K, if_pos, if_neg, if_true, if_false, b1_some]
theorem A_model (x y : Int) : AA (m_Cb_model 0 x y) (m_Md_model 126 x y) := by
  rintro h ⟨V, R⟩
  obtain ⟨X, M, K, I, T, P⟩ := id R
  have hn := K.n
  unfold m_Cb_model m_Md_model m_Cb_isKind
  simp only [Int.reduceAdd, X_hasItem X, b1_some, P_in]
  by_cases h1 : 0 ≤ x ∧ x < V 0 0 0
  · by_cases h2 : 0 ≤ y ∧ y ≤ 3
    · have e1 := X.kd (i := x) (by omega) (by omega)
      simp only [Int.reduceAdd] at e1
      have M' : isM (upd2 h 3 x y) V := isM_up (by omega) M
      refine ⟨V 2 x 0, upd2 h 3 x y, upd2 (upd2 h 3 x y) 128 x y, ?_, ?_, upV V 2 x 0 y, Rl_put R ?_ ?_ ?_ ?_⟩
      · simp (disch := omega) only [if_pos, if_neg, bv_some, b1_some, e1]
      · simp (disch := omega) only [M_isItem M' K, if_pos, if_neg, bv_some, b1_some, M'.kd]
      · unfold atX; omega
      · omega
      · unfold atM; omega
      · unfold rgV; omega
    · refine ⟨-2, h, h, ?_, ?_, V, R⟩
      · by_cases h3 : y < 0
        · simp (disch := omega) only [if_pos, if_neg, if_true, if_false, b1_some]
        · simp (disch := omega) only [if_pos, if_neg, if_true, if_false, b1_some]
      · simp (disch := omega) only [M_isItem M K, if_pos, if_neg, if_true, if_false, b1_some]
  · refine ⟨-1, h, h, ?_, ?_, V, R⟩
    · simp (disch := omega) only [if_pos, if_neg, if_true, if_false, b1_some]
    · simp (disch := omega) only [M_isItem M K, if_pos, if_neg, if_true, if_false, b1_some]
theorem A_part (x y z : Int) : AA (m_Cb_part 0 x y z) (m_Md_part 126 x y z) := by
  rintro h ⟨V, R⟩
  obtain ⟨X, M, K, I, T, P⟩ := id R
  have hn := K.n
  unfold m_Cb_part m_Md_part m_Cb_isAnswer
  simp only [Int.reduceAdd, Int.zero_add, X_hasItem X, b1_some, P_in]
  by_cases h1 : 0 ≤ x ∧ x < V 0 0 0
  · by_cases h2 : 0 ≤ y ∧ y ≤ 3
    · by_cases h3 : 1 ≤ z ∧ z ≤ 3
      · have e1 := X.pt (i := x) (a := y) (by omega) (by omega) (by omega) (by omega)
        rw [show (1 : Int) + x + 4 = x + 5 by omega] at e1
        have M' : isM (upd2 h (x + 5) y z) V := isM_up (by omega) M
        refine ⟨V 3 x y, upd2 h (x + 5) y z, upd2 (upd2 h (x + 5) y z) 129 (4 * x + y) z, ?_, ?_, upV V 3 x y z, Rl_put R ?_ ?_ ?_ ?_⟩
        · simp (disch := omega) only [if_pos, if_neg, bv_some, b1_some, e1]
        · simp (disch := omega) only [M_isItem M' K, if_pos, if_neg, bv_some, b1_some, w32_id, M'.pt]
        · unfold atX; omega
        · omega
        · unfold atM; omega
        · unfold rgV; omega
      · refine ⟨-2, h, h, ?_, ?_, V, R⟩
        · by_cases h4 : z < 1
          · simp (disch := omega) only [if_pos, if_neg, if_true, if_false, b1_some]
          · simp (disch := omega) only [if_pos, if_neg, if_true, if_false, b1_some]
        · simp (disch := omega) only [M_isItem M K, if_pos, if_neg, if_true, if_false, b1_some]
    · refine ⟨-1, h, h, ?_, ?_, V, R⟩
      · by_cases h3 : y < 0
        · simp (disch := omega) only [if_pos, if_neg, if_true, if_false, b1_some]
        · simp (disch := omega) only [if_pos, if_neg, if_true, if_false, b1_some]
      · simp (disch := omega) only [M_isItem M K, if_pos, if_neg, if_true, if_false, b1_some]
  · refine ⟨-1, h, h, ?_, ?_, V, R⟩
    · simp (disch := omega) only [if_pos, if_neg, if_true, if_false, b1_some]
    · simp (disch := omega) only [M_isItem M K, if_pos, if_neg, if_true, if_false, b1_some]
theorem A_gives (x y z : Int) : AA (m_Cb_gives 0 x y z) (m_Md_gives 126 x y z) := by
  rintro h ⟨V, R⟩
  obtain ⟨X, M, K, I, T, P⟩ := id R
  have hn := K.n
  have hm := K.m
  unfold m_Cb_gives m_Md_gives m_Cb_gives_J39 m_Cb_isAnswer m_Cb_orNeither m_Md_told
  simp only [Int.reduceAdd, Int.zero_add, X_hasItem X, X_hasCandidate X, b1_some, P_in]
  by_cases h1 : 0 ≤ x ∧ x < V 0 1 0
  · by_cases h2 : 0 ≤ y ∧ y < V 0 0 0
    · by_cases h3 : -1 ≤ z ∧ z ≤ 3
      · have e1 := X.gv (c := x) (i := y) (by omega) (by omega) (by omega) (by omega)
        rw [show (1 : Int) + x + 13 = x + 14 by omega] at e1
        have M' : isM (upd2 h (x + 14) y z) V := isM_up (by omega) M
        refine ⟨if 0 ≤ V 4 x y then V 4 x y else -5, upd2 h (x + 14) y z, upd2 (upd2 h (x + 14) y z) 130 (8 * x + y) z, ?_, ?_, upV V 4 x y z, Rl_put R ?_ ?_ ?_ ?_⟩
        · by_cases h4 : z = -1
          · simp (disch := omega) only [h4, if_pos, if_neg, if_true, bv_some, b1_some, e1]
            split <;> rfl
          · simp (disch := omega) only [if_pos, if_neg, if_false, bv_some, b1_some, e1]
            split <;> rfl
        · simp (disch := omega) only [M_isItem M' K, M_isOne M' K, if_pos, if_neg, bv_some, b1_some, w32_id, M'.gv]
          split <;> rfl
        · unfold atX; omega
        · omega
        · unfold atM; omega
        · unfold rgV; omega
      · refine ⟨-2, h, h, ?_, ?_, V, R⟩
        · by_cases h4 : z < 0
          · simp (disch := omega) only [if_pos, if_neg, if_true, if_false, b1_some]
          · simp (disch := omega) only [if_pos, if_neg, if_true, if_false, b1_some]
        · simp (disch := omega) only [M_isItem M K, M_isOne M K, if_pos, if_neg, if_true, if_false, b1_some]
    · refine ⟨-1, h, h, ?_, ?_, V, R⟩
      · simp (disch := omega) only [if_pos, if_neg, if_true, if_false, b1_some]
      · simp (disch := omega) only [M_isItem M K, M_isOne M K, if_pos, if_neg, if_true, if_false, b1_some]
  · refine ⟨-1, h, h, ?_, ?_, V, R⟩
    · simp (disch := omega) only [if_pos, if_neg, if_true, if_false, b1_some]
    · simp (disch := omega) only [M_isOne M K, if_pos, if_neg, if_true, if_false, b1_some]
theorem A_use (x y : Int) : AA (m_Cb_use 0 x y) (m_Md_use 126 x y) := by
  rintro h ⟨V, R⟩
  obtain ⟨X, M, K, I, T, P⟩ := id R
  have c1 : ∀ g : HP, m_Cb_leastUse x g = some (if x = 2 ∨ x = 5 then 1 else 0) := fun g => by
    unfold m_Cb_leastUse
    (repeat' split) <;> first | rfl | (exfalso; omega)
  have c2 : ∀ g : HP, m_Cb_mostUse x g = some (if x = 0 ∨ x = 1 then 3 else if x = 2 then 500 else if x = 3 then 9 else if x = 4 then 2 else 4) := fun g => by
    unfold m_Cb_mostUse
    (repeat' split) <;> first | rfl | (exfalso; omega)
  have c3 : ∀ g : HP, 0 ≤ x ∧ x < 6 → m_Md_isUse x y g = some (if (if x = 2 ∨ x = 5 then 1 else 0) ≤ y ∧ y ≤ (if x = 0 ∨ x = 1 then 3 else if x = 2 then 500 else if x = 3 then 9 else if x = 4 then 2 else 4) then 1 else 0) := fun g hx => by
    unfold m_Md_isUse m_Md_isUse_J36
    simp only [P_in, b1_some]
    rcases (show x = 0 ∨ x = 1 ∨ x = 2 ∨ x = 3 ∨ x = 4 ∨ x = 5 by omega) with rfl | rfl | rfl | rfl | rfl | rfl <;> simp
  unfold m_Cb_use m_Md_use
  simp only [Int.reduceAdd, Int.zero_add, c1, c2, b1_some, P_in]
  by_cases h1 : 0 ≤ x ∧ x < 6
  · by_cases h2 : (if x = 2 ∨ x = 5 then 1 else 0) ≤ y ∧ y ≤ (if x = 0 ∨ x = 1 then 3 else if x = 2 then 500 else if x = 3 then 9 else if x = 4 then 2 else 4)
    · have e1 := X.us (c := x) (by omega) (by omega)
      simp only [Int.reduceAdd] at e1
      have M' : isM (upd2 h 24 x y) V := isM_up (by omega) M
      refine ⟨V 7 x 0, upd2 h 24 x y, upd2 (upd2 h 24 x y) 133 x y, ?_, ?_, upV V 7 x 0 y, Rl_put R ?_ ?_ ?_ ?_⟩
      · rw [if_neg (by omega), if_pos (by omega), if_neg (by omega), if_pos h2.2]
        simp (disch := omega) only [if_pos, bv_some, e1]
      · rw [c3 _ h1, if_pos h2]
        simp (disch := omega) only [if_pos, if_neg, bv_some, b1_some, M'.us]
      · unfold atX; omega
      · omega
      · unfold atM; omega
      · unfold rgV
        rcases (show x = 0 ∨ x = 1 ∨ x = 2 ∨ x = 3 ∨ x = 4 ∨ x = 5 by omega) with rfl | rfl | rfl | rfl | rfl | rfl <;> simp at h2 ⊢ <;> omega
    · refine ⟨-2, h, h, ?_, ?_, V, R⟩
      · rw [if_neg (by omega), if_pos (by omega)]
        by_cases h3 : y < (if x = 2 ∨ x = 5 then 1 else 0)
        · rw [if_pos h3]
        · rw [if_neg h3, if_neg (fun c => h2 ⟨by omega, c⟩)]
      · rw [c3 _ h1, if_neg h2]
        simp (disch := omega) only [if_pos, if_neg, bv_some, b1_some, if_true]
  · refine ⟨-1, h, h, ?_, ?_, V, R⟩
    · by_cases h3 : x < 0
      · simp (disch := omega) only [if_pos, if_neg, if_true, if_false, b1_some]
      · simp (disch := omega) only [if_pos, if_neg, if_true, if_false, b1_some]
    · simp (disch := omega) only [if_pos, if_neg, if_true, if_false, b1_some]
