/-! PURE: how both sides begin -/
def hE0 : HP := Bg 0 4 (upd2 (upd2 hi_Exam 23 2 50) 23 5 1)
theorem X_tail0 : m_Exam_tail 0 hi_Exam = some hE0 := by
  unfold m_Exam_tail hE0
  simp only [bv_some, Int.zero_add, X_begin, b1_some]
def Mc1 (k : Int) (h : HP) : HP := fun p j => if (p = 1 ∨ p = 2) ∧ 0 ≤ j ∧ j < k then 0 else h p j
def Mc2 (k : Int) (h : HP) : HP := fun p j => if p = 3 ∧ 0 ≤ j ∧ j < k then 1 else h p j
theorem M_begins0 (h : HP) : m_Md_begins 0 h = some (Mc2 32 (Mc1 8 (upd2 (upd2 (upd2 h 0 1 0) 0 15 0) 0 16 0))) := by
  unfold m_Md_begins
  simp only [bv_some]
  generalize upd2 (upd2 (upd2 h 0 1 0) 0 15 0) 0 16 0 = h
  unfold m_Md_begins_L17
  refine loop_seq (fun k => (k, Mc1 k h)) 0 8 (by omega) (by omega) ?_ (fun k h0 h1 => ?_) ?_
  · refine pr_eq ?_
    funext p j
    unfold Mc1
    rw [if_neg (by omega)]
  · dsimp only
    unfold m_Md_begins_L17b
    simp (disch := omega) only [if_pos, if_neg, bv_some, w32_id, Int.zero_add]
    refine in_eq ?_
    funext p j
    unfold Mc1 upd2
    ((try dsimp only); repeat' split) <;> first | rfl | (exfalso; omega)
  · dsimp only
    unfold m_Md_begins_L17b
    simp (disch := omega) only [if_pos]
    generalize Mc1 8 h = h
    have e : m_Md_begins_L45 0 (0, h) = some (Mc2 32 h) := by
      unfold m_Md_begins_L45
      refine loop_seq (fun k => (k, Mc2 k h)) 0 32 (by omega) (by omega) ?_ (fun k h0 h1 => ?_) ?_
      · refine pr_eq ?_
        funext p j
        unfold Mc2
        rw [if_neg (by omega)]
      · dsimp only
        unfold m_Md_begins_L45b
        simp (disch := omega) only [if_pos, if_neg, bv_some, w32_id, Int.zero_add]
        refine in_eq ?_
        funext p j
        unfold Mc2 upd2
        ((try dsimp only); repeat' split) <;> first | rfl | (exfalso; omega)
      · dsimp only
        unfold m_Md_begins_L45b
        simp (disch := omega) only [if_pos]
    rw [e]
    rfl
def hM0 : HP := Mc2 32 (Mc1 8 (upd2 (upd2 (upd2 hi_Md 0 1 0) 0 15 0) 0 16 0))
theorem M_tail0 : m_Md_tail 0 hi_Md = some hM0 := by
  unfold m_Md_tail hM0
  rw [M_begins0, b1_some]
theorem hr_sml {τ : TP} {h : HP} (b : ∀ p j, -1 ≤ h p j ∧ h p j ≤ 50) (c : ∀ (k : Nat) (kd : Nat × Nat), τ[k]? = some kd → kd.1 = 2 → ∀ j : Nat, b01 (h k j)) (d : ∀ (k : Nat) (kd : Nat × Nat), τ[k]? = some kd → 4 ≤ kd.1 → ∀ (j : Nat) (t : Nat × Nat), (FT kd.2)[j]? = some t → t.1 = 2 → b01 (h k j)) : hr τ h := by
  intro k kd hk
  have hR : ∀ j, inR (h k j) := fun j => by have := b k j; unfold inR; omega
  have hL : ∀ j, inL (h k j) := fun j => by have := b k j; unfold inL; omega
  have hc := c k kd hk
  have hd := d k kd hk
  obtain ⟨a, n⟩ := kd
  match a with
  | 0 => exact fun j _ => hR j
  | 1 => exact fun j _ => hL j
  | 2 => exact fun j _ => hc rfl j
  | 3 => trivial
  | a + 4 =>
    intro j t ht
    have := hd (by omega) j t ht
    obtain ⟨u, w⟩ := t
    match u with
    | 0 => exact hR j
    | 1 => exact hL j
    | 2 => exact this rfl
    | u + 3 => trivial
theorem hE0_26 (j : Int) : hE0 26 j = 0 := by
  unfold hE0 Bg Bg2 Bg1 upd2 hi_Exam
  ((try dsimp only); repeat' split) <;> first | rfl | (exfalso; omega)
theorem hE0_b (p j : Int) : -1 ≤ hE0 p j ∧ hE0 p j ≤ 50 := by
  unfold hE0 Bg Bg2 Bg1 upd2 hi_Exam
  ((try dsimp only); repeat' split) <;> omega
theorem hM0_b (p j : Int) : -1 ≤ hM0 p j ∧ hM0 p j ≤ 50 := by
  unfold hM0 Mc2 Mc1 upd2 hi_Md
  ((try dsimp only); repeat' split) <;> omega
theorem hM0_22 (j : Int) : hM0 22 j = 0 := by
  unfold hM0 Mc2 Mc1 upd2 hi_Md
  ((try dsimp only); repeat' split) <;> first | rfl | (exfalso; omega)
theorem hM0_0 (j : Int) (hj : j ≠ 0) : hM0 0 j = 0 := by
  unfold hM0 Mc2 Mc1 upd2 hi_Md
  simp [hj]
theorem bo_Exam : ∀ k, k < 30 → ∀ kd ∈ lay_Exam[k]?, (kd.1 = 2 → k = 26) ∧ (4 ≤ kd.1 → kd.2 = 1) := by decide +kernel
theorem bo_Md : ∀ k, k < 39 → ∀ kd ∈ lay_Md[k]?, (kd.1 = 2 → k = 22) ∧ (4 ≤ kd.1 → k = 0 ∧ kd.2 = 10) := by decide +kernel
theorem hr_E0 : hr lay_Exam hE0 := by
  have L : lay_Exam.length = 30 := by decide +kernel
  refine hr_sml hE0_b (fun k kd hk e j => ?_) (fun k kd hk e j t ht e2 => ?_)
  · have hl := (List.getElem?_eq_some_iff.mp hk).1
    have := (bo_Exam k (by omega) kd hk).1 e
    subst this
    exact Or.inl (hE0_26 j)
  · have hl := (List.getElem?_eq_some_iff.mp hk).1
    have e3 := (bo_Exam k (by omega) kd hk).2 e
    rw [e3] at ht
    have : ∀ t ∈ FT 1, t.1 ≠ 2 := by decide +kernel
    exact absurd e2 (this t (List.mem_of_getElem? ht))
theorem hr_M0 : hr lay_Md hM0 := by
  have L : lay_Md.length = 39 := by decide +kernel
  refine hr_sml hM0_b (fun k kd hk e j => ?_) (fun k kd hk e j t ht e2 => ?_)
  · have hl := (List.getElem?_eq_some_iff.mp hk).1
    have := (bo_Md k (by omega) kd hk).1 e
    subst this
    exact Or.inl (hM0_22 j)
  · have hl := (List.getElem?_eq_some_iff.mp hk).1
    obtain ⟨e3, e4⟩ := (bo_Md k (by omega) kd hk).2 e
    subst e3
    rw [e4] at ht
    have : ∀ t ∈ (FT 10)[0]?, t.1 ≠ 2 := by decide +kernel
    refine Or.inl (hM0_0 j ?_)
    rintro q
    have q : j = 0 := by omega
    subst q
    exact this t ht e2
