/-! PURE: an exam copied -/
def rlX (q : Int) : Int := if q = 0 then 4 else if q ≤ 2 then 8 else if q = 3 then 0 else if q ≤ 11 then 4 else if q = 12 then 0 else if q ≤ 22 then 8 else if q = 23 then 6 else if q ≤ 26 then 5 else 8
/-- rows below n copied from r to o -/
def cpX (o r n : Int) (h : HP) : HP := fun p j => if (o ≤ p ∧ p < o + n) ∧ 0 ≤ j ∧ j < rlX (p - o) then h (p - o + r) j else h p j
theorem cpX_s {o r n : Int} {h : HP} (hd : r + 30 ≤ o ∨ o + 30 ≤ r) (hn : 0 ≤ n ∧ n < 30) : blit (cpX o r n h) (r + n) 0 (o + n) 0 (rlX n) = cpX o r (n + 1) h := by
  funext p j
  unfold blit
  by_cases e : p = o + n
  · subst e
    have e1 : cpX o r (n + 1) h (o + n) j = if 0 ≤ j ∧ j < rlX n then h (r + n) j else h (o + n) j := by
      unfold cpX
      rw [show o + n - o = n by omega, show n + r = r + n by omega]
      by_cases c : 0 ≤ j ∧ j < rlX n
      · rw [if_pos ⟨by omega, c⟩, if_pos c]
      · rw [if_neg (fun q => c q.2), if_neg c]
    have e2 : ∀ i, cpX o r n h (r + n) i = h (r + n) i := fun i => by
      unfold cpX
      rw [if_neg (by omega)]
    have e3 : cpX o r n h (o + n) j = h (o + n) j := by
      unfold cpX
      rw [if_neg (by omega)]
    rw [e1, e2, e3, show (0 : Int) + (j - 0) = j by omega, Int.zero_add]
    by_cases c : 0 ≤ j ∧ j < rlX n
    · rw [if_pos ⟨rfl, c⟩, if_pos c]
    · rw [if_neg (fun q => c q.2), if_neg c]
  · rw [if_neg (fun q => e q.1)]
    unfold cpX
    by_cases c : (o ≤ p ∧ p < o + n) ∧ 0 ≤ j ∧ j < rlX (p - o)
    · rw [if_pos c, if_pos ⟨by omega, c.2⟩]
    · rw [if_neg c, if_neg (fun q => c ⟨by omega, q.2⟩)]
theorem cpX_k {o r n : Int} {h : HP} (hz : rlX n = 0) : cpX o r (n + 1) h = cpX o r n h := by
  funext p j
  unfold cpX
  by_cases e : p - o = n
  · rw [if_neg (fun q => by have := q.2; rw [e, hz] at this; omega), if_neg (fun q => by omega)]
  · by_cases c : (o ≤ p ∧ p < o + n) ∧ 0 ≤ j ∧ j < rlX (p - o)
    · rw [if_pos c, if_pos ⟨by omega, c.2⟩]
    · rw [if_neg c, if_neg (fun q => c ⟨by omega, q.2⟩)]
theorem cpX_1 {o r : Int} {h : HP} (hd : r + 30 ≤ o ∨ o + 30 ≤ r) : upd2 (upd2 (upd2 (upd2 h o 0 (h r 0)) o 1 (h r 1)) o 2 (h r 2)) o 3 (h r 3) = cpX o r 1 h := by
  funext p j
  unfold cpX
  by_cases e : p = o
  · subst e
    rw [show p - p = 0 by omega, show rlX 0 = 4 from rfl, Int.zero_add]
    by_cases c : 0 ≤ j ∧ j < 4
    · rw [if_pos ⟨by omega, c⟩]
      have h4 : j = 0 ∨ j = 1 ∨ j = 2 ∨ j = 3 := by omega
      rcases h4 with rfl | rfl | rfl | rfl
      · rw [upd2_nj _ (by omega), upd2_nj _ (by omega), upd2_nj _ (by omega), upd2_eq]
      · rw [upd2_nj _ (by omega), upd2_nj _ (by omega), upd2_eq]
      · rw [upd2_nj _ (by omega), upd2_eq]
      · rw [upd2_eq]
    · rw [if_neg (fun q => c q.2), upd2_nj _ (by omega), upd2_nj _ (by omega), upd2_nj _ (by omega), upd2_nj _ (by omega)]
  · rw [if_neg (by omega), upd2_np _ e, upd2_np _ e, upd2_np _ e, upd2_np _ e]
theorem X_copy {o r : Int} {h : HP} (hd : r + 30 ≤ o ∨ o + 30 ≤ r) : m_Exam_copy o r h = some (cpX o r 30 h) := by
  have st : ∀ n m : Int, 0 ≤ n → n < 30 → rlX n = m → blit (cpX o r n h) (r + n) 0 (o + n) 0 m = cpX o r (n + 1) h := fun n m n0 n1 e => by
    rw [← e]
    exact cpX_s hd ⟨n0, n1⟩
  unfold m_Exam_copy
  simp only [bv_some]
  have e1 : upd2 (upd2 (upd2 (upd2 h o 0 (h r 0)) o 1 (upd2 h o 0 (h r 0) r 1)) o 2 (upd2 (upd2 h o 0 (h r 0)) o 1 (upd2 h o 0 (h r 0) r 1) r 2)) o 3 (upd2 (upd2 (upd2 h o 0 (h r 0)) o 1 (upd2 h o 0 (h r 0) r 1)) o 2 (upd2 (upd2 h o 0 (h r 0)) o 1 (upd2 h o 0 (h r 0) r 1) r 2) r 3) = cpX o r 1 h := by
    have u : ∀ (g : HP) i v j, upd2 g o i v r j = g r j := fun g i v j => upd2_np _ (by omega)
    rw [u, u, u, u, u, u]
    exact cpX_1 hd
  rw [e1, st 1 8 (by omega) (by omega) rfl, show (1 : Int) + 1 = 2 from rfl, st 2 8 (by omega) (by omega) rfl, show (2 : Int) + 1 = 3 from rfl, ← cpX_k (o := o) (r := r) (n := 3) (h := h) rfl, show (3 : Int) + 1 = 4 from rfl]
  have tail : m_Exam_copy_J127 o r (cpX o r 21 h) = some (cpX o r 30 h) := by
    unfold m_Exam_copy_J127
    simp only [bv_some]
    rw [st 21 8 (by omega) (by omega) rfl, show (21 : Int) + 1 = 22 from rfl, st 22 8 (by omega) (by omega) rfl, show (22 : Int) + 1 = 23 from rfl, st 23 6 (by omega) (by omega) rfl, show (23 : Int) + 1 = 24 from rfl, st 24 5 (by omega) (by omega) rfl, show (24 : Int) + 1 = 25 from rfl, st 25 5 (by omega) (by omega) rfl, show (25 : Int) + 1 = 26 from rfl, st 26 5 (by omega) (by omega) rfl, show (26 : Int) + 1 = 27 from rfl, st 27 8 (by omega) (by omega) rfl, show (27 : Int) + 1 = 28 from rfl, st 28 8 (by omega) (by omega) rfl, show (28 : Int) + 1 = 29 from rfl, st 29 8 (by omega) (by omega) rfl]
    rfl
  have r4 : ∀ k, 0 ≤ k → k < 8 → rlX (k + 4) = 4 := fun k k0 k1 => by
    unfold rlX
    rw [if_neg (by omega), if_neg (by omega), if_neg (by omega), if_pos (by omega)]
  have r13 : ∀ k, 0 ≤ k → k < 8 → rlX (k + 13) = 8 := fun k k0 k1 => by
    unfold rlX
    rw [if_neg (by omega), if_neg (by omega), if_neg (by omega), if_neg (by omega), if_neg (by omega), if_pos (by omega)]
  have mid : m_Exam_copy_L96 o r (0, cpX o r 13 h) = some (cpX o r 30 h) := by
    unfold m_Exam_copy_L96
    refine loop_seq (fun k => (k, cpX o r (k + 13) h)) 0 8 (by omega) (by omega) rfl (fun k k0 k1 => ?_) ?_
    · (try dsimp only)
      unfold m_Exam_copy_L96b
      rw [if_neg (by omega), if_pos (by omega), if_pos (by omega), w32_id (by omega) (by omega), show r + k + 13 = r + (k + 13) by omega, show o + k + 13 = o + (k + 13) by omega, st (k + 13) 8 (by omega) (by omega) (r13 k k0 k1), show k + 13 + 1 = k + 1 + 13 by omega]
      rfl
    · (try dsimp only)
      unfold m_Exam_copy_L96b
      rw [if_pos (by omega), show (8 : Int) + 13 = 21 from rfl, tail]
      rfl
  unfold m_Exam_copy_L64
  refine loop_seq (fun k => (k, cpX o r (k + 4) h)) 0 8 (by omega) (by omega) rfl (fun k k0 k1 => ?_) ?_
  · (try dsimp only)
    unfold m_Exam_copy_L64b
    rw [if_neg (by omega), if_pos (by omega), if_pos (by omega), w32_id (by omega) (by omega), show r + k + 4 = r + (k + 4) by omega, show o + k + 4 = o + (k + 4) by omega, st (k + 4) 4 (by omega) (by omega) (r4 k k0 k1), show k + 4 + 1 = k + 1 + 4 by omega]
    rfl
  · (try dsimp only)
    unfold m_Exam_copy_L64b
    rw [if_pos (by omega), show (8 : Int) + 4 = 12 from rfl, ← cpX_k (o := o) (r := r) (n := 12) (h := h) rfl, show (12 : Int) + 1 = 13 from rfl, mid]
    rfl
theorem cpX_at {o r : Int} {h : HP} {q j : Int} (hq : 0 ≤ q ∧ q < 30) (hj : 0 ≤ j ∧ j < rlX q) : cpX o r 30 h (o + q) j = h (r + q) j := by
  unfold cpX
  rw [show o + q - o = q by omega, if_pos ⟨by omega, hj⟩, show q + r = r + q by omega]
theorem cpX_fr {o r : Int} {h : HP} {p j : Int} (n : ¬ (o ≤ p ∧ p ≤ o + 29)) : cpX o r 30 h p j = h p j := by
  unfold cpX
  rw [if_neg (by omega)]
theorem isX_cp {o r : Int} {h : HP} {V : Vw} (X : isX r h V) : isX o (cpX o r 30 h) V := by
  have a0 : ∀ j, 0 ≤ j → j < 4 → cpX o r 30 h o j = h r j := fun j j0 j1 => by
    have := cpX_at (o := o) (r := r) (h := h) (q := 0) (j := j) (by omega) ⟨j0, j1⟩
    rwa [Int.add_zero, Int.add_zero] at this
  have a : ∀ q j m, 0 ≤ q → q < 30 → rlX q = m → 0 ≤ j → j < m → cpX o r 30 h (o + q) j = h (r + q) j := fun q j m q0 q1 e j0 j1 => cpX_at ⟨q0, q1⟩ ⟨j0, by omega⟩
  have X' := X
  unfold isX at X
  obtain ⟨x0, x1, x2, x3, x4, x5, x6, x7, x8, x9, x10, x11, x12⟩ := X
  unfold isX
  refine ⟨?_, ?_, ?_, ?_, fun i p q => ?_, fun i p q => ?_, fun i k p q p' q' => ?_, fun i k p q p' q' => ?_, fun i p q => ?_, fun i p q => ?_, fun i p q => ?_, fun i p q => ?_, fun i p q => ?_⟩
  · rw [a0 0 (by omega) (by omega)]; exact x0
  · rw [a0 1 (by omega) (by omega)]; exact x1
  · rw [a0 2 (by omega) (by omega)]; exact x2
  · rw [a0 3 (by omega) (by omega)]; exact x3
  · rw [a 1 i 8 (by omega) (by omega) rfl p q]; exact x4 i p q
  · rw [a 2 i 8 (by omega) (by omega) rfl p q]; exact x5 i p q
  · have e : rlX (i + 4) = 4 := by
      unfold rlX
      rw [if_neg (by omega), if_neg (by omega), if_neg (by omega), if_pos (by omega)]
    rw [show o + i + 4 = o + (i + 4) by omega, a (i + 4) k 4 (by omega) (by omega) e p' q', show r + (i + 4) = r + i + 4 by omega]
    exact x6 i k p q p' q'
  · have e : rlX (i + 13) = 8 := by
      unfold rlX
      rw [if_neg (by omega), if_neg (by omega), if_neg (by omega), if_neg (by omega), if_neg (by omega), if_pos (by omega)]
    rw [show o + i + 13 = o + (i + 13) by omega, a (i + 13) k 8 (by omega) (by omega) e p' q', show r + (i + 13) = r + i + 13 by omega]
    exact x7 i k p q p' q'
  · rw [a 21 i 8 (by omega) (by omega) rfl p q]; exact x8 i p q
  · rw [a 22 i 8 (by omega) (by omega) rfl p q]; exact x9 i p q
  · rw [a 23 i 6 (by omega) (by omega) rfl p q]; exact x10 i p q
  · rw [a 24 i 5 (by omega) (by omega) rfl p q, a 25 i 5 (by omega) (by omega) rfl p q, a 26 i 5 (by omega) (by omega) rfl p q]; exact x11 i p q
  · rw [a 27 i 8 (by omega) (by omega) rfl p q, a 28 i 8 (by omega) (by omega) rfl p q, a 29 i 8 (by omega) (by omega) rfl p q]; exact x12 i p q
