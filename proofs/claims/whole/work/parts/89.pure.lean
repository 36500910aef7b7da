/-! PURE: the law answers 1 on every script -/
theorem law_step {xs : Int → Int} {m x3 : Int} {h : HP} (hin : ∀ i, inR (xs i)) (hx : 0 ≤ x3 ∧ x3 + 6 ≤ m ∧ m ≤ 3072) (R : Rel h) : ∃ h1, m_law_L18b 0 126 xs m x3 h = some (.inl (x3 + 6, h1)) ∧ Rel h1 := by
  unfold m_law_L18b
  rw [w32_id (by omega) (by omega), if_neg (show ¬ m - 6 < x3 by omega), if_pos (show 0 ≤ x3 ∧ x3 < m by omega)]
  by_cases c0 : iAnd (xs x3) 63 = 0
  · rw [if_pos c0]
    exact K_items hin hx R
  rw [if_neg c0]
  by_cases c1 : iAnd (xs x3) 63 = 1
  · rw [if_pos c1]
    exact K_right hin hx R
  rw [if_neg c1]
  by_cases c2 : iAnd (xs x3) 63 = 2
  · rw [if_pos c2]
    exact K_model hin hx R
  rw [if_neg c2]
  by_cases c3 : iAnd (xs x3) 63 = 3
  · rw [if_pos c3]
    exact K_part hin hx R
  rw [if_neg c3]
  by_cases c4 : iAnd (xs x3) 63 = 4
  · rw [if_pos c4]
    exact K_candidate hin hx R
  rw [if_neg c4]
  by_cases c5 : iAnd (xs x3) 63 = 5
  · rw [if_pos c5]
    exact K_gives hin hx R
  rw [if_neg c5]
  by_cases c6 : iAnd (xs x3) 63 = 6
  · rw [if_pos c6]
    exact K_seat hin hx R
  rw [if_neg c6]
  by_cases c7 : iAnd (xs x3) 63 = 7
  · rw [if_pos c7]
    exact K_feed hin hx R
  rw [if_neg c7]
  by_cases c8 : iAnd (xs x3) 63 = 8
  · rw [if_pos c8]
    exact K_read hin hx R
  rw [if_neg c8]
  by_cases c9 : iAnd (xs x3) 63 = 9
  · rw [if_pos c9]
    exact K_use hin hx R
  rw [if_neg c9]
  by_cases c10 : iAnd (xs x3) 63 = 10
  · rw [if_pos c10]
    exact K_answer hin hx R
  rw [if_neg c10]
  by_cases c11 : iAnd (xs x3) 63 = 11
  · rw [if_pos c11]
    exact K_of hin hx R
  rw [if_neg c11]
  by_cases c12 : iAnd (xs x3) 63 = 12
  · rw [if_pos c12]
    exact K_itemOf hin hx R
  rw [if_neg c12]
  by_cases c13 : iAnd (xs x3) 63 = 13
  · rw [if_pos c13]
    exact K_taken hin hx R
  rw [if_neg c13]
  by_cases c14 : iAnd (xs x3) 63 = 14
  · rw [if_pos c14]
    exact K_share hin hx R
  rw [if_neg c14]
  by_cases c15 : iAnd (xs x3) 63 = 15
  · rw [if_pos c15]
    exact K_alike hin hx R
  rw [if_neg c15]
  by_cases c16 : iAnd (xs x3) 63 = 16
  · rw [if_pos c16]
    exact K_odds hin hx R
  rw [if_neg c16]
  by_cases c17 : iAnd (xs x3) 63 = 17
  · rw [if_pos c17]
    exact K_just hin hx R
  rw [if_neg c17]
  by_cases c18 : iAnd (xs x3) 63 = 18
  · rw [if_pos c18]
    exact K_source hin hx R
  rw [if_neg c18]
  by_cases c19 : iAnd (xs x3) 63 = 19
  · rw [if_pos c19]
    exact K_without hin hx R
  rw [if_neg c19]
  by_cases c20 : iAnd (xs x3) 63 = 20
  · rw [if_pos c20]
    exact K_key hin hx R
  rw [if_neg c20]
  by_cases c21 : iAnd (xs x3) 63 = 21
  · rw [if_pos c21]
    exact K_pairs hin hx R
  rw [if_neg c21]
  by_cases c22 : iAnd (xs x3) 63 = 22
  · rw [if_pos c22]
    exact K_pair hin hx R
  rw [if_neg c22]
  by_cases c23 : iAnd (xs x3) 63 = 23
  · rw [if_pos c23]
    exact K_pairOdds hin hx R
  rw [if_neg c23]
  by_cases c24 : iAnd (xs x3) 63 = 24
  · rw [if_pos c24]
    exact K_rank hin hx R
  rw [if_neg c24]
  by_cases c25 : iAnd (xs x3) 63 = 25
  · rw [if_pos c25]
    exact K_linked hin hx R
  rw [if_neg c25]
  by_cases c26 : iAnd (xs x3) 63 = 26
  · rw [if_pos c26]
    exact K_chain hin hx R
  rw [if_neg c26]
  by_cases c27 : iAnd (xs x3) 63 = 27
  · rw [if_pos c27]
    exact K_group hin hx R
  rw [if_neg c27]
  by_cases c28 : iAnd (xs x3) 63 = 28
  · rw [if_pos c28]
    exact K_seated hin hx R
  rw [if_neg c28]
  by_cases c29 : iAnd (xs x3) 63 = 29
  · rw [if_pos c29]
    exact K_drawn hin hx R
  rw [if_neg c29]
  by_cases c30 : iAnd (xs x3) 63 = 30
  · rw [if_pos c30]
    exact K_chance hin hx R
  rw [if_neg c30]
  by_cases c31 : iAnd (xs x3) 63 = 31
  · rw [if_pos c31]
    exact K_see hx R
  rw [if_neg c31]
  by_cases c32 : iAnd (xs x3) 63 = 32
  · rw [if_pos c32]
    exact K_fits hin hx R
  rw [if_neg c32]
  by_cases c33 : iAnd (xs x3) 63 = 33
  · rw [if_pos c33]
    exact K_mean hin hx R
  rw [if_neg c33]
  by_cases c34 : iAnd (xs x3) 63 = 34
  · rw [if_pos c34]
    exact K_plan hin hx R
  rw [if_neg c34]
  by_cases c35 : iAnd (xs x3) 63 = 35
  · rw [if_pos c35]
    exact K_ends hin hx R
  rw [if_neg c35]
  by_cases c36 : iAnd (xs x3) 63 = 36
  · rw [if_pos c36]
    exact K_judge hin hx R
  rw [if_neg c36]
  by_cases c37 : iAnd (xs x3) 63 = 37
  · rw [if_pos c37]
    exact K_image hin hx R
  rw [if_neg c37]
  by_cases c38 : iAnd (xs x3) 63 = 38
  · rw [if_pos c38]
    exact K_undo hin hx R
  rw [if_neg c38]
  by_cases c39 : iAnd (xs x3) 63 = 39
  · rw [if_pos c39]
    exact K_count hin hx R
  rw [if_neg c39]
  by_cases c40 : iAnd (xs x3) 63 = 40
  · rw [if_pos c40]
    exact K_tape hin hx R
  rw [if_neg c40]
  by_cases c41 : iAnd (xs x3) 63 = 41
  · rw [if_pos c41]
    exact K_item hin hx R
  rw [if_neg c41]
  by_cases c42 : iAnd (xs x3) 63 = 42
  · rw [if_pos c42]
    exact K_peek hin hx R
  rw [if_neg c42]
  by_cases c43 : iAnd (xs x3) 63 = 43
  · rw [if_pos c43]
    exact K_shift hin hx R
  rw [if_neg c43]
  exact ⟨h, by rw [w32_id (by omega) (by omega)], R⟩
theorem law_pure {xs : Int → Int} {m : Int} (h0 : 0 ≤ m) (hm : m ≤ 3072) (hin : ∀ i, inR (xs i)) {h : HP} (R : Rel h) : ∃ h1, m_law_from 0 126 xs m h = some (1, h1) := by
  unfold m_law_from m_law_L18
  have K : ∃ x, loopO (fun s : Int × HP => m_law_L18b 0 126 xs m s.1 s.2) FUEL (0, h) = some x ∧ x.1 = 1 := by
    refine loopO_inv (fun s : Int × HP => (0 ≤ s.1 ∧ s.1 ≤ 3078) ∧ Rel s.2) (fun s => (4000 - s.1).toNat) (fun x : Int × HP => x.1 = 1) (fun s I => ?_) FUEL (0, h) ⟨⟨by show (0 : Int) ≤ 0; omega, by show (0 : Int) ≤ 3078; omega⟩, R⟩ (by unfold FUEL; show (4000 - (0 : Int)).toNat < _; omega)
    obtain ⟨x3, g⟩ := s
    obtain ⟨I1, I2⟩ := I
    have I1 : 0 ≤ x3 ∧ x3 ≤ 3078 := I1
    by_cases c : m - 6 < x3
    · refine Or.inr ⟨(1, g), ?_, rfl⟩
      show m_law_L18b 0 126 xs m x3 g = _
      unfold m_law_L18b
      rw [w32_id (by omega) (by omega), if_pos c]
    · obtain ⟨h1, e, R1⟩ := law_step hin (x3 := x3) (m := m) (by omega) I2
      refine Or.inl ⟨(x3 + 6, h1), e, ⟨?_, R1⟩, ?_⟩
      · show 0 ≤ x3 + 6 ∧ x3 + 6 ≤ 3078
        omega
      · show (4000 - (x3 + 6)).toNat < (4000 - x3).toNat
        omega
  obtain ⟨x, e, q⟩ := K
  obtain ⟨x1, x2⟩ := x
  have q : x1 = 1 := q
  subst q
  exact ⟨x2, e⟩
theorem pure_law : PURE := ⟨hE0, hM0, X_tail0, hr_E0, M_tail0, hr_M0, fun xs m h0 hm hin => law_pure h0 hm hin Rel_0⟩
