/-! PURE: one step of the law, call by call -/
section Steps
variable {xs : Int → Int} {m x3 : Int} {h : HP}
theorem K_items (hin : ∀ i, inR (xs i)) (hx : 0 ≤ x3 ∧ x3 + 6 ≤ m ∧ m ≤ 3072) (R : Rel h) : ∃ h1, m_law_J224 0 126 x3 xs m h = some (.inl (x3 + 6, h1)) ∧ Rel h1 := by
  obtain ⟨a, h1, h2, e1, e2, R2⟩ := A_items (xs (x3 + 1)) h R
  refine ⟨h2, ?_, R2⟩
  unfold m_law_J224
  simp (disch := omega) only [w32_id, if_pos]
  rw [e1, b2_some]
  (try simp (disch := omega) only [if_pos])
  rw [e2, b2_some, if_pos rfl]
theorem K_right (hin : ∀ i, inR (xs i)) (hx : 0 ≤ x3 ∧ x3 + 6 ≤ m ∧ m ≤ 3072) (R : Rel h) : ∃ h1, m_law_J247 0 126 x3 xs m h = some (.inl (x3 + 6, h1)) ∧ Rel h1 := by
  obtain ⟨a, h1, h2, e1, e2, R2⟩ := A_right (xs (x3 + 1)) (xs (x3 + 2)) h R
  refine ⟨h2, ?_, R2⟩
  unfold m_law_J247
  simp (disch := omega) only [w32_id, if_pos]
  rw [e1, b2_some]
  (try simp (disch := omega) only [if_pos])
  rw [e2, b2_some, if_pos rfl]
theorem K_model (hin : ∀ i, inR (xs i)) (hx : 0 ≤ x3 ∧ x3 + 6 ≤ m ∧ m ≤ 3072) (R : Rel h) : ∃ h1, m_law_J280 0 126 x3 xs m h = some (.inl (x3 + 6, h1)) ∧ Rel h1 := by
  obtain ⟨a, h1, h2, e1, e2, R2⟩ := A_model (xs (x3 + 1)) (xs (x3 + 2)) h R
  refine ⟨h2, ?_, R2⟩
  unfold m_law_J280
  simp (disch := omega) only [w32_id, if_pos]
  rw [e1, b2_some]
  (try simp (disch := omega) only [if_pos])
  rw [e2, b2_some, if_pos rfl]
theorem K_part (hin : ∀ i, inR (xs i)) (hx : 0 ≤ x3 ∧ x3 + 6 ≤ m ∧ m ≤ 3072) (R : Rel h) : ∃ h1, m_law_J313 0 126 x3 xs m h = some (.inl (x3 + 6, h1)) ∧ Rel h1 := by
  obtain ⟨a, h1, h2, e1, e2, R2⟩ := A_part (xs (x3 + 1)) (xs (x3 + 2)) (xs (x3 + 3)) h R
  refine ⟨h2, ?_, R2⟩
  unfold m_law_J313
  simp (disch := omega) only [w32_id, if_pos]
  rw [e1, b2_some]
  (try simp (disch := omega) only [if_pos])
  rw [e2, b2_some, if_pos rfl]
theorem K_candidate (hin : ∀ i, inR (xs i)) (hx : 0 ≤ x3 ∧ x3 + 6 ≤ m ∧ m ≤ 3072) (R : Rel h) : ∃ h1, m_law_J356 0 126 x3 xs m h = some (.inl (x3 + 6, h1)) ∧ Rel h1 := by
  obtain ⟨a, h1, h2, e1, e2, R2⟩ := A_candidate h R
  refine ⟨h2, ?_, R2⟩
  unfold m_law_J356
  simp (disch := omega) only [w32_id, if_pos]
  rw [e1, b2_some]
  (try simp (disch := omega) only [if_pos])
  rw [e2, b2_some, if_pos rfl]
theorem K_gives (hin : ∀ i, inR (xs i)) (hx : 0 ≤ x3 ∧ x3 + 6 ≤ m ∧ m ≤ 3072) (R : Rel h) : ∃ h1, m_law_J369 0 126 x3 xs m h = some (.inl (x3 + 6, h1)) ∧ Rel h1 := by
  obtain ⟨a, h1, h2, e1, e2, R2⟩ := A_gives (xs (x3 + 1)) (xs (x3 + 2)) (xs (x3 + 3)) h R
  refine ⟨h2, ?_, R2⟩
  unfold m_law_J369
  simp (disch := omega) only [w32_id, if_pos]
  rw [e1, b2_some]
  (try simp (disch := omega) only [if_pos])
  rw [e2, b2_some, if_pos rfl]
theorem K_seat (hin : ∀ i, inR (xs i)) (hx : 0 ≤ x3 ∧ x3 + 6 ≤ m ∧ m ≤ 3072) (R : Rel h) : ∃ h1, m_law_J412 0 126 x3 xs m h = some (.inl (x3 + 6, h1)) ∧ Rel h1 := by
  obtain ⟨a, h1, h2, e1, e2, R2⟩ := A_seat (xs (x3 + 1)) (xs (x3 + 2)) (xs (x3 + 3)) h R
  refine ⟨h2, ?_, R2⟩
  unfold m_law_J412
  simp (disch := omega) only [w32_id, if_pos]
  rw [e1, b2_some]
  (try simp (disch := omega) only [if_pos])
  rw [e2, b2_some, if_pos rfl]
theorem K_feed (hin : ∀ i, inR (xs i)) (hx : 0 ≤ x3 ∧ x3 + 6 ≤ m ∧ m ≤ 3072) (R : Rel h) : ∃ h1, m_law_J455 0 126 x3 xs m h = some (.inl (x3 + 6, h1)) ∧ Rel h1 := by
  obtain ⟨a, h1, h2, e1, e2, R2⟩ := A_feed (xs (x3 + 1)) h R
  refine ⟨h2, ?_, R2⟩
  unfold m_law_J455
  simp (disch := omega) only [w32_id, if_pos]
  rw [e1, b2_some]
  (try simp (disch := omega) only [if_pos])
  rw [e2, b2_some, if_pos rfl]
theorem K_read (hin : ∀ i, inR (xs i)) (hx : 0 ≤ x3 ∧ x3 + 6 ≤ m ∧ m ≤ 3072) (R : Rel h) : ∃ h1, m_law_J478 0 126 x3 xs m h = some (.inl (x3 + 6, h1)) ∧ Rel h1 := by
  obtain ⟨a, h1, h2, e1, e2, R2⟩ := A_read h R
  refine ⟨h2, ?_, R2⟩
  unfold m_law_J478
  simp (disch := omega) only [w32_id, if_pos]
  rw [e1, b2_some]
  (try simp (disch := omega) only [if_pos])
  rw [e2, b2_some, if_pos rfl]
theorem K_use (hin : ∀ i, inR (xs i)) (hx : 0 ≤ x3 ∧ x3 + 6 ≤ m ∧ m ≤ 3072) (R : Rel h) : ∃ h1, m_law_J491 0 126 x3 xs m h = some (.inl (x3 + 6, h1)) ∧ Rel h1 := by
  obtain ⟨a, h1, h2, e1, e2, R2⟩ := A_use (xs (x3 + 1)) (xs (x3 + 2)) h R
  refine ⟨h2, ?_, R2⟩
  unfold m_law_J491
  simp (disch := omega) only [w32_id, if_pos]
  rw [e1, b2_some]
  (try simp (disch := omega) only [if_pos])
  rw [e2, b2_some, if_pos rfl]
theorem K_answer (hin : ∀ i, inR (xs i)) (hx : 0 ≤ x3 ∧ x3 + 6 ≤ m ∧ m ≤ 3072) (R : Rel h) : ∃ h1, m_law_J524 0 126 x3 xs m h = some (.inl (x3 + 6, h1)) ∧ Rel h1 := by
  obtain ⟨a, e1, e2⟩ := A_answer (xs (x3 + 1)) (xs (x3 + 2)) h R
  refine ⟨h, ?_, R⟩
  unfold m_law_J524
  simp (disch := omega) only [w32_id, if_pos]
  rw [e1, b1_some]
  (try simp (disch := omega) only [if_pos])
  rw [e2, b1_some, if_pos rfl]
theorem K_of (hin : ∀ i, inR (xs i)) (hx : 0 ≤ x3 ∧ x3 + 6 ≤ m ∧ m ≤ 3072) (R : Rel h) : ∃ h1, m_law_J557 0 126 x3 xs m h = some (.inl (x3 + 6, h1)) ∧ Rel h1 := by
  obtain ⟨a, e1, e2⟩ := A_of (xs (x3 + 1)) (xs (x3 + 2)) h R
  refine ⟨h, ?_, R⟩
  unfold m_law_J557
  simp (disch := omega) only [w32_id, if_pos]
  rw [e1, b1_some]
  (try simp (disch := omega) only [if_pos])
  rw [e2, b1_some, if_pos rfl]
theorem K_itemOf (hin : ∀ i, inR (xs i)) (hx : 0 ≤ x3 ∧ x3 + 6 ≤ m ∧ m ≤ 3072) (R : Rel h) : ∃ h1, m_law_J590 0 126 x3 xs m h = some (.inl (x3 + 6, h1)) ∧ Rel h1 := by
  obtain ⟨a, e1, e2⟩ := A_itemOf (xs (x3 + 1)) (xs (x3 + 2)) h R
  refine ⟨h, ?_, R⟩
  unfold m_law_J590
  simp (disch := omega) only [w32_id, if_pos]
  rw [e1, b1_some]
  (try simp (disch := omega) only [if_pos])
  rw [e2, b1_some, if_pos rfl]
theorem K_taken (hin : ∀ i, inR (xs i)) (hx : 0 ≤ x3 ∧ x3 + 6 ≤ m ∧ m ≤ 3072) (R : Rel h) : ∃ h1, m_law_J623 0 126 x3 xs m h = some (.inl (x3 + 6, h1)) ∧ Rel h1 := by
  obtain ⟨a, e1, e2⟩ := A_taken (xs (x3 + 1)) (xs (x3 + 2)) h R
  refine ⟨h, ?_, R⟩
  unfold m_law_J623
  simp (disch := omega) only [w32_id, if_pos]
  rw [e1, b1_some]
  (try simp (disch := omega) only [if_pos])
  rw [e2, b1_some, if_pos rfl]
theorem K_share (hin : ∀ i, inR (xs i)) (hx : 0 ≤ x3 ∧ x3 + 6 ≤ m ∧ m ≤ 3072) (R : Rel h) : ∃ h1, m_law_J656 0 126 x3 xs m h = some (.inl (x3 + 6, h1)) ∧ Rel h1 := by
  obtain ⟨a, h1, e1, e2, R2⟩ := A_share (xs (x3 + 1)) (xs (x3 + 2)) (xs (x3 + 3)) (xs (x3 + 4)) h R
  refine ⟨h1, ?_, R2⟩
  unfold m_law_J656
  simp (disch := omega) only [w32_id, if_pos]
  rw [e1, b2_some]
  (try simp (disch := omega) only [if_pos])
  rw [e2, b1_some, if_pos rfl]
theorem K_alike (hin : ∀ i, inR (xs i)) (hx : 0 ≤ x3 ∧ x3 + 6 ≤ m ∧ m ≤ 3072) (R : Rel h) : ∃ h1, m_law_J709 0 126 x3 xs m h = some (.inl (x3 + 6, h1)) ∧ Rel h1 := by
  obtain ⟨a, e1, e2⟩ := A_alike (xs (x3 + 1)) (xs (x3 + 2)) h R
  refine ⟨h, ?_, R⟩
  unfold m_law_J709
  simp (disch := omega) only [w32_id, if_pos]
  rw [e1, b1_some]
  (try simp (disch := omega) only [if_pos])
  rw [e2, b1_some, if_pos rfl]
theorem K_odds (hin : ∀ i, inR (xs i)) (hx : 0 ≤ x3 ∧ x3 + 6 ≤ m ∧ m ≤ 3072) (R : Rel h) : ∃ h1, m_law_J742 0 126 x3 xs m h = some (.inl (x3 + 6, h1)) ∧ Rel h1 := by
  obtain ⟨a, h1, h2, e1, e2, R2⟩ := A_odds (xs (x3 + 1)) (xs (x3 + 2)) (xs (x3 + 3)) (xs (x3 + 4)) h R
  refine ⟨h2, ?_, R2⟩
  unfold m_law_J742
  simp (disch := omega) only [w32_id, if_pos]
  rw [e1, b2_some]
  (try simp (disch := omega) only [if_pos])
  rw [e2, b2_some, if_pos ((lCmp_0 _ _).mpr rfl)]
theorem K_just (hin : ∀ i, inR (xs i)) (hx : 0 ≤ x3 ∧ x3 + 6 ≤ m ∧ m ≤ 3072) (R : Rel h) : ∃ h1, m_law_J796 0 126 x3 xs m h = some (.inl (x3 + 6, h1)) ∧ Rel h1 := by
  obtain ⟨a, h1, h2, e1, e2, R2⟩ := A_just (xs (x3 + 1)) (xs (x3 + 2)) (xs (x3 + 3)) (xs (x3 + 4)) (xs (x3 + 5)) h R
  refine ⟨h2, ?_, R2⟩
  unfold m_law_J796
  simp (disch := omega) only [w32_id, if_pos]
  rw [e1, b2_some]
  (try simp (disch := omega) only [if_pos])
  rw [e2, b2_some, if_pos ((lCmp_0 _ _).mpr rfl)]
theorem K_source (hin : ∀ i, inR (xs i)) (hx : 0 ≤ x3 ∧ x3 + 6 ≤ m ∧ m ≤ 3072) (R : Rel h) : ∃ h1, m_law_J860 0 126 x3 xs m h = some (.inl (x3 + 6, h1)) ∧ Rel h1 := by
  obtain ⟨a, h1, h2, e1, e2, R2⟩ := A_source (xs (x3 + 1)) (xs (x3 + 2)) h R
  refine ⟨h2, ?_, R2⟩
  unfold m_law_J860
  simp (disch := omega) only [w32_id, if_pos]
  rw [e1, b2_some]
  (try simp (disch := omega) only [if_pos])
  rw [e2, b2_some, if_pos rfl]
theorem K_without (hin : ∀ i, inR (xs i)) (hx : 0 ≤ x3 ∧ x3 + 6 ≤ m ∧ m ≤ 3072) (R : Rel h) : ∃ h1, m_law_J893 0 126 x3 xs m h = some (.inl (x3 + 6, h1)) ∧ Rel h1 := by
  obtain ⟨a, h1, h2, e1, e2, R2⟩ := A_without (xs (x3 + 1)) (xs (x3 + 2)) (xs (x3 + 3)) (xs (x3 + 4)) h R
  refine ⟨h2, ?_, R2⟩
  unfold m_law_J893
  simp (disch := omega) only [w32_id, if_pos]
  rw [e1, b2_some]
  (try simp (disch := omega) only [if_pos])
  rw [e2, b2_some, if_pos ((lCmp_0 _ _).mpr rfl)]
theorem K_key (hin : ∀ i, inR (xs i)) (hx : 0 ≤ x3 ∧ x3 + 6 ≤ m ∧ m ≤ 3072) (R : Rel h) : ∃ h1, m_law_J947 0 126 x3 xs m h = some (.inl (x3 + 6, h1)) ∧ Rel h1 := by
  obtain ⟨a, h1, h2, e1, e2, R2⟩ := A_key (xs (x3 + 1)) (xs (x3 + 2)) h R
  refine ⟨h2, ?_, R2⟩
  unfold m_law_J947
  simp (disch := omega) only [w32_id, if_pos]
  rw [e1, b2_some]
  (try simp (disch := omega) only [if_pos])
  rw [e2, b2_some, if_pos rfl]
theorem K_pairs (hin : ∀ i, inR (xs i)) (hx : 0 ≤ x3 ∧ x3 + 6 ≤ m ∧ m ≤ 3072) (R : Rel h) : ∃ h1, m_law_J980 0 126 x3 xs m h = some (.inl (x3 + 6, h1)) ∧ Rel h1 := by
  obtain ⟨a, h1, h2, e1, e2, R2⟩ := A_pairs (xs (x3 + 1)) (xs (x3 + 2)) h R
  refine ⟨h2, ?_, R2⟩
  unfold m_law_J980
  simp (disch := omega) only [w32_id, if_pos]
  rw [e1, b2_some]
  (try simp (disch := omega) only [if_pos])
  rw [e2, b2_some, if_pos rfl]
theorem K_pair (hin : ∀ i, inR (xs i)) (hx : 0 ≤ x3 ∧ x3 + 6 ≤ m ∧ m ≤ 3072) (R : Rel h) : ∃ h1, m_law_J1013 0 126 x3 xs m h = some (.inl (x3 + 6, h1)) ∧ Rel h1 := by
  obtain ⟨a, h1, h2, e1, e2, R2⟩ := A_pair (xs (x3 + 1)) (xs (x3 + 2)) h R
  refine ⟨h2, ?_, R2⟩
  unfold m_law_J1013
  simp (disch := omega) only [w32_id, if_pos]
  rw [e1, b2_some]
  (try simp (disch := omega) only [if_pos])
  rw [e2, b2_some, if_pos rfl]
theorem K_pairOdds (hin : ∀ i, inR (xs i)) (hx : 0 ≤ x3 ∧ x3 + 6 ≤ m ∧ m ≤ 3072) (R : Rel h) : ∃ h1, m_law_J1046 0 126 x3 xs m h = some (.inl (x3 + 6, h1)) ∧ Rel h1 := by
  obtain ⟨a, h1, h2, e1, e2, R2⟩ := A_pairOdds (xs (x3 + 1)) (xs (x3 + 2)) h R
  refine ⟨h2, ?_, R2⟩
  unfold m_law_J1046
  simp (disch := omega) only [w32_id, if_pos]
  rw [e1, b2_some]
  (try simp (disch := omega) only [if_pos])
  rw [e2, b2_some, if_pos ((lCmp_0 _ _).mpr rfl)]
theorem K_rank (hin : ∀ i, inR (xs i)) (hx : 0 ≤ x3 ∧ x3 + 6 ≤ m ∧ m ≤ 3072) (R : Rel h) : ∃ h1, m_law_J1080 0 126 x3 xs m h = some (.inl (x3 + 6, h1)) ∧ Rel h1 := by
  obtain ⟨a, h1, h2, e1, e2, R2⟩ := A_rank (xs (x3 + 1)) (xs (x3 + 2)) h R
  refine ⟨h2, ?_, R2⟩
  unfold m_law_J1080
  simp (disch := omega) only [w32_id, if_pos]
  rw [e1, b2_some]
  (try simp (disch := omega) only [if_pos])
  rw [e2, b2_some, if_pos rfl]
theorem K_linked (hin : ∀ i, inR (xs i)) (hx : 0 ≤ x3 ∧ x3 + 6 ≤ m ∧ m ≤ 3072) (R : Rel h) : ∃ h1, m_law_J1113 0 126 x3 xs m h = some (.inl (x3 + 6, h1)) ∧ Rel h1 := by
  obtain ⟨a, h1, h2, e1, e2, R2⟩ := A_linked (xs (x3 + 1)) h R
  refine ⟨h2, ?_, R2⟩
  unfold m_law_J1113
  simp (disch := omega) only [w32_id, if_pos]
  rw [e1, b2_some]
  (try simp (disch := omega) only [if_pos])
  rw [e2, b2_some, if_pos rfl]
theorem K_chain (hin : ∀ i, inR (xs i)) (hx : 0 ≤ x3 ∧ x3 + 6 ≤ m ∧ m ≤ 3072) (R : Rel h) : ∃ h1, m_law_J1136 0 126 x3 xs m h = some (.inl (x3 + 6, h1)) ∧ Rel h1 := by
  obtain ⟨a, h1, h2, e1, e2, R2⟩ := A_chain (xs (x3 + 1)) h R
  refine ⟨h2, ?_, R2⟩
  unfold m_law_J1136
  simp (disch := omega) only [w32_id, if_pos]
  rw [e1, b2_some]
  (try simp (disch := omega) only [if_pos])
  rw [e2, b2_some, if_pos rfl]
theorem K_group (hin : ∀ i, inR (xs i)) (hx : 0 ≤ x3 ∧ x3 + 6 ≤ m ∧ m ≤ 3072) (R : Rel h) : ∃ h1, m_law_J1159 0 126 x3 xs m h = some (.inl (x3 + 6, h1)) ∧ Rel h1 := by
  obtain ⟨a, h1, h2, e1, e2, R2⟩ := A_group (xs (x3 + 1)) h R
  refine ⟨h2, ?_, R2⟩
  unfold m_law_J1159
  simp (disch := omega) only [w32_id, if_pos]
  rw [e1, b2_some]
  (try simp (disch := omega) only [if_pos])
  rw [e2, b2_some, if_pos rfl]
theorem K_seated (hin : ∀ i, inR (xs i)) (hx : 0 ≤ x3 ∧ x3 + 6 ≤ m ∧ m ≤ 3072) (R : Rel h) : ∃ h1, m_law_J1182 0 126 x3 xs m h = some (.inl (x3 + 6, h1)) ∧ Rel h1 := by
  obtain ⟨a, h1, h2, e1, e2, R2⟩ := A_seated (xs (x3 + 1)) (xs (x3 + 2)) h R
  refine ⟨h2, ?_, R2⟩
  unfold m_law_J1182
  simp (disch := omega) only [w32_id, if_pos]
  rw [e1, b2_some]
  (try simp (disch := omega) only [if_pos])
  rw [e2, b2_some, if_pos ((lCmp_0 _ _).mpr rfl)]
theorem K_drawn (hin : ∀ i, inR (xs i)) (hx : 0 ≤ x3 ∧ x3 + 6 ≤ m ∧ m ≤ 3072) (R : Rel h) : ∃ h1, m_law_J1216 0 126 x3 xs m h = some (.inl (x3 + 6, h1)) ∧ Rel h1 := by
  obtain ⟨a, h1, h2, e1, e2, R2⟩ := A_drawn (xs (x3 + 1)) (xs (x3 + 2)) (xs (x3 + 3)) h R
  refine ⟨h2, ?_, R2⟩
  unfold m_law_J1216
  simp (disch := omega) only [w32_id, if_pos]
  rw [e1, b2_some]
  (try simp (disch := omega) only [if_pos])
  rw [e2, b2_some, if_pos rfl]
theorem K_chance (hin : ∀ i, inR (xs i)) (hx : 0 ≤ x3 ∧ x3 + 6 ≤ m ∧ m ≤ 3072) (R : Rel h) : ∃ h1, m_law_J1259 0 126 x3 xs m h = some (.inl (x3 + 6, h1)) ∧ Rel h1 := by
  obtain ⟨a, h1, h2, e1, e2, R2⟩ := A_chance (xs (x3 + 1)) (xs (x3 + 2)) (xs (x3 + 3)) (xs (x3 + 4)) (xs (x3 + 5)) h R
  refine ⟨h2, ?_, R2⟩
  unfold m_law_J1259
  simp (disch := omega) only [w32_id, if_pos]
  rw [e1, b2_some]
  (try simp (disch := omega) only [if_pos])
  rw [e2, b2_some, if_pos ((lCmp_0 _ _).mpr rfl)]
theorem K_fits (hin : ∀ i, inR (xs i)) (hx : 0 ≤ x3 ∧ x3 + 6 ≤ m ∧ m ≤ 3072) (R : Rel h) : ∃ h1, m_law_J1382 0 126 x3 xs m h = some (.inl (x3 + 6, h1)) ∧ Rel h1 := by
  obtain ⟨a, h1, h2, e1, e2, R2⟩ := A_fits (xs (x3 + 1)) h R
  refine ⟨h2, ?_, R2⟩
  unfold m_law_J1382
  simp (disch := omega) only [w32_id, if_pos]
  rw [e1, b2_some]
  (try simp (disch := omega) only [if_pos])
  rw [e2, b2_some, if_pos rfl]
theorem K_mean (hin : ∀ i, inR (xs i)) (hx : 0 ≤ x3 ∧ x3 + 6 ≤ m ∧ m ≤ 3072) (R : Rel h) : ∃ h1, m_law_J1405 0 126 x3 xs m h = some (.inl (x3 + 6, h1)) ∧ Rel h1 := by
  obtain ⟨a, h1, h2, e1, e2, R2⟩ := A_mean (xs (x3 + 1)) h R
  refine ⟨h2, ?_, R2⟩
  unfold m_law_J1405
  simp (disch := omega) only [w32_id, if_pos]
  rw [e1, b2_some]
  (try simp (disch := omega) only [if_pos])
  rw [e2, b2_some, if_pos ((lCmp_0 _ _).mpr rfl)]
theorem K_plan (hin : ∀ i, inR (xs i)) (hx : 0 ≤ x3 ∧ x3 + 6 ≤ m ∧ m ≤ 3072) (R : Rel h) : ∃ h1, m_law_J1429 0 126 x3 xs m h = some (.inl (x3 + 6, h1)) ∧ Rel h1 := by
  obtain ⟨a, h1, h2, e1, e2, R2⟩ := A_plan (xs (x3 + 1)) (xs (x3 + 2)) (xs (x3 + 3)) h R
  refine ⟨h2, ?_, R2⟩
  unfold m_law_J1429
  simp (disch := omega) only [w32_id, if_pos]
  rw [e1, b2_some]
  (try simp (disch := omega) only [if_pos])
  rw [e2, b2_some, if_pos rfl]
theorem K_ends (hin : ∀ i, inR (xs i)) (hx : 0 ≤ x3 ∧ x3 + 6 ≤ m ∧ m ≤ 3072) (R : Rel h) : ∃ h1, m_law_J1472 0 126 x3 xs m h = some (.inl (x3 + 6, h1)) ∧ Rel h1 := by
  obtain ⟨a, h1, h2, e1, e2, R2⟩ := A_ends h R
  refine ⟨h2, ?_, R2⟩
  unfold m_law_J1472
  simp (disch := omega) only [w32_id, if_pos]
  rw [e1, b2_some]
  (try simp (disch := omega) only [if_pos])
  rw [e2, b2_some, if_pos rfl]
theorem K_judge (hin : ∀ i, inR (xs i)) (hx : 0 ≤ x3 ∧ x3 + 6 ≤ m ∧ m ≤ 3072) (R : Rel h) : ∃ h1, m_law_J1485 0 126 x3 xs m h = some (.inl (x3 + 6, h1)) ∧ Rel h1 := by
  obtain ⟨a, e1, e2⟩ := A_judge (xs (x3 + 1)) (xs (x3 + 2)) (xs (x3 + 3)) (hin _) h R
  refine ⟨h, ?_, R⟩
  unfold m_law_J1485
  simp (disch := omega) only [w32_id, if_pos]
  rw [e1, b1_some]
  (try simp (disch := omega) only [if_pos])
  rw [e2, b1_some, if_pos rfl]
theorem K_image (hin : ∀ i, inR (xs i)) (hx : 0 ≤ x3 ∧ x3 + 6 ≤ m ∧ m ≤ 3072) (R : Rel h) : ∃ h1, m_law_J1528 0 126 x3 xs m h = some (.inl (x3 + 6, h1)) ∧ Rel h1 := by
  obtain ⟨a, h1, h2, e1, e2, R2⟩ := A_image h R
  refine ⟨h2, ?_, R2⟩
  unfold m_law_J1528
  simp (disch := omega) only [w32_id, if_pos]
  rw [e1, b2_some]
  (try simp (disch := omega) only [if_pos])
  rw [e2, b2_some, if_pos rfl]
theorem K_undo (hin : ∀ i, inR (xs i)) (hx : 0 ≤ x3 ∧ x3 + 6 ≤ m ∧ m ≤ 3072) (R : Rel h) : ∃ h1, m_law_J1541 0 126 x3 xs m h = some (.inl (x3 + 6, h1)) ∧ Rel h1 := by
  obtain ⟨a, h1, h2, e1, e2, R2⟩ := A_undo h R
  refine ⟨h2, ?_, R2⟩
  unfold m_law_J1541
  simp (disch := omega) only [w32_id, if_pos]
  rw [e1, b2_some]
  (try simp (disch := omega) only [if_pos])
  rw [e2, b2_some, if_pos rfl]
theorem K_count (hin : ∀ i, inR (xs i)) (hx : 0 ≤ x3 ∧ x3 + 6 ≤ m ∧ m ≤ 3072) (R : Rel h) : ∃ h1, m_law_J1554 0 126 x3 xs m h = some (.inl (x3 + 6, h1)) ∧ Rel h1 := by
  obtain ⟨a, e1, e2⟩ := A_count (xs (x3 + 1)) (hin _) h R
  refine ⟨h, ?_, R⟩
  unfold m_law_J1554
  simp (disch := omega) only [w32_id, if_pos]
  rw [e1, b1_some]
  (try simp (disch := omega) only [if_pos])
  rw [e2, b1_some, if_pos rfl]
theorem K_tape (hin : ∀ i, inR (xs i)) (hx : 0 ≤ x3 ∧ x3 + 6 ≤ m ∧ m ≤ 3072) (R : Rel h) : ∃ h1, m_law_J1577 0 126 x3 xs m h = some (.inl (x3 + 6, h1)) ∧ Rel h1 := by
  obtain ⟨a, h1, h2, e1, e2, R2⟩ := A_tape (xs (x3 + 1)) (xs (x3 + 2)) (xs (x3 + 3)) h R
  refine ⟨h2, ?_, R2⟩
  unfold m_law_J1577
  simp (disch := omega) only [w32_id, if_pos]
  rw [e1, b2_some]
  (try simp (disch := omega) only [if_pos])
  rw [e2, b2_some, if_pos rfl]
theorem K_item (hin : ∀ i, inR (xs i)) (hx : 0 ≤ x3 ∧ x3 + 6 ≤ m ∧ m ≤ 3072) (R : Rel h) : ∃ h1, m_law_J1620 0 126 x3 xs m h = some (.inl (x3 + 6, h1)) ∧ Rel h1 := by
  obtain ⟨a, h1, h2, e1, e2, R2⟩ := A_item (xs (x3 + 1)) (xs (x3 + 2)) (lOr (lShl (xs (x3 + 3)) 32) (lAnd (xs (x3 + 4)) 4294967295)) h R
  refine ⟨h2, ?_, R2⟩
  unfold m_law_J1620
  simp (disch := omega) only [w32_id, if_pos]
  rw [e1, b2_some]
  (try simp (disch := omega) only [if_pos])
  rw [e2, b2_some, if_pos rfl]
theorem K_peek (hin : ∀ i, inR (xs i)) (hx : 0 ≤ x3 ∧ x3 + 6 ≤ m ∧ m ≤ 3072) (R : Rel h) : ∃ h1, m_law_J1693 0 126 x3 xs m h = some (.inl (x3 + 6, h1)) ∧ Rel h1 := by
  obtain ⟨a, e1, e2⟩ := A_peek (xs (x3 + 1)) (xs (x3 + 2)) h R
  refine ⟨h, ?_, R⟩
  unfold m_law_J1693
  simp (disch := omega) only [w32_id, if_pos]
  rw [e1, b1_some]
  (try simp (disch := omega) only [if_pos])
  rw [e2, b1_some, if_pos ((lCmp_0 _ _).mpr rfl)]
theorem K_shift (hin : ∀ i, inR (xs i)) (hx : 0 ≤ x3 ∧ x3 + 6 ≤ m ∧ m ≤ 3072) (R : Rel h) : ∃ h1, m_law_J1727 0 126 x3 xs m h = some (.inl (x3 + 6, h1)) ∧ Rel h1 := by
  obtain ⟨a, h1, h2, e1, e2, R2⟩ := A_shift (xs (x3 + 1)) (xs (x3 + 2)) (xs (x3 + 3)) (xs (x3 + 4)) (xs (x3 + 5)) h R
  refine ⟨h2, ?_, R2⟩
  unfold m_law_J1727
  simp (disch := omega) only [w32_id, if_pos]
  rw [e1, b2_some]
  (try simp (disch := omega) only [if_pos])
  rw [e2, b2_some, if_pos rfl]
theorem K_see (hx : 0 ≤ x3 ∧ x3 + 6 ≤ m ∧ m ≤ 3072) (R : Rel h) : ∃ h1, m_law_J1323 0 126 x3 xs m h = some (.inl (x3 + 6, h1)) ∧ Rel h1 := by
  by_cases q : xs (x3 + 3) = 0
  · obtain ⟨a, h1, h2, e1, e2, R2⟩ := A_see (xs (x3 + 1)) (xs (x3 + 2)) 0 (Or.inl rfl) h R
    refine ⟨h2, ?_, R2⟩
    unfold m_law_J1323 m_law_J1347 m_law_J1374
    simp (disch := omega) only [w32_id, if_pos]
    rw [e1, b2_some]
    (try simp (disch := omega) only [if_pos])
    rw [e2, b2_some, if_pos rfl]
  · obtain ⟨a, h1, h2, e1, e2, R2⟩ := A_see (xs (x3 + 1)) (xs (x3 + 2)) 1 (Or.inr rfl) h R
    refine ⟨h2, ?_, R2⟩
    unfold m_law_J1323 m_law_J1347 m_law_J1374
    simp (disch := omega) only [w32_id, if_pos, if_neg]
    rw [e1, b2_some]
    (try simp (disch := omega) only [if_pos, if_neg])
    rw [e2, b2_some, if_pos rfl]
end Steps
