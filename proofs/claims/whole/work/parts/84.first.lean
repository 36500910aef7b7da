/-! PURE: what holds when the law begins -/
def Vi : Vw := fun f a _ => if f = 7 then (if a = 2 then 50 else if a = 5 then 1 else 0) else 0
theorem isX_E0 : isX 0 hE0 (vBg 4 Vi) := by
  refine isX_Bg ⟨fun k a b => ?_, fun k a b => ?_, fun k a b => ?_⟩
  · unfold upd2 hi_Exam Vi
    ((try dsimp only); repeat' split) <;> first | rfl | (exfalso; omega)
  · unfold upd2 hi_Exam Vi
    simp
  · unfold upd2 hi_Exam Vi
    simp
theorem isX_mv {h h1 : HP} {V : Vw} (e : ∀ p j, 1 ≤ p → p < 31 → h1 p j = h (p - 1) j) (X : isX 0 h V) : isX 1 h1 V := by
  unfold isX at X ⊢
  obtain ⟨x0, x1, x2, x3, x4, x5, x6, x7, x8, x9, x10, x11, x12⟩ := X
  have s : ∀ {p q : Int} (j : Int), p = q → h p j = h q j := fun j e => by rw [e]
  refine ⟨?_, ?_, ?_, ?_, fun i a b => ?_, fun i a b => ?_, fun i j a b c d => ?_, fun i j a b c d => ?_, fun i a b => ?_, fun i a b => ?_, fun i a b => ?_, fun i a b => ?_, fun i a b => ?_⟩
  · rw [e _ _ (by omega) (by omega)]; exact x0
  · rw [e _ _ (by omega) (by omega)]; exact x1
  · rw [e _ _ (by omega) (by omega)]; exact x2
  · rw [e _ _ (by omega) (by omega)]; exact x3
  · rw [e _ _ (by omega) (by omega)]; exact x4 i a b
  · rw [e _ _ (by omega) (by omega)]; exact x5 i a b
  · rw [e _ _ (by omega) (by omega), s _ (show (1 + i + 4 - 1 : Int) = 0 + i + 4 by omega)]; exact x6 i j a b c d
  · rw [e _ _ (by omega) (by omega), s _ (show (1 + i + 13 - 1 : Int) = 0 + i + 13 by omega)]; exact x7 i j a b c d
  · rw [e _ _ (by omega) (by omega)]; exact x8 i a b
  · rw [e _ _ (by omega) (by omega)]; exact x9 i a b
  · rw [e _ _ (by omega) (by omega)]; exact x10 i a b
  · rw [e _ _ (by omega) (by omega), e _ _ (by omega) (by omega), e _ _ (by omega) (by omega)]; exact x11 i a b
  · rw [e _ _ (by omega) (by omega), e _ _ (by omega) (by omega), e _ _ (by omega) (by omega)]; exact x12 i a b
theorem hF_x (p j : Int) (a : 1 ≤ p) (b : p < 31) : h_F hE0 hM0 p j = hE0 (p - 1) j := by
  unfold h_F h_Cb
  rw [if_pos (by omega), if_neg (by omega), if_pos (by omega)]
theorem hF_m (p j : Int) (a : 126 ≤ p) : h_F hE0 hM0 p j = hM0 (p - 126) j := by
  unfold h_F
  rw [if_neg (by omega)]
theorem hM0_z (p j : Int) (a : 4 ≤ p) (b : p ≠ 7) (c : p ≠ 36) : hM0 p j = 0 := by
  unfold hM0 Mc2 Mc1 upd2 hi_Md
  ((try dsimp only); repeat' split) <;> first | rfl | (exfalso; omega)
theorem hM0_3 (j : Int) (a : 0 ≤ j) (b : j < 32) : hM0 3 j = 1 := by
  unfold hM0 Mc2
  rw [if_pos (by omega)]
theorem hM0_12 (p j : Int) (h : p = 1 ∨ p = 2) (a : 0 ≤ j) (b : j < 8) : hM0 p j = 0 := by
  unfold hM0 Mc2 Mc1
  rw [if_neg (by omega), if_pos (by omega)]
theorem hM0_7 (j : Int) : hM0 7 j = if j = 2 then 50 else if j = 5 then 1 else 0 := by
  unfold hM0 Mc2 Mc1 upd2 hi_Md
  simp
theorem hM0_36 (j : Int) (a : 0 ≤ j) (b : j < 6) : hM0 36 j = -1 := by
  unfold hM0 Mc2 Mc1 upd2 hi_Md
  simp
  omega
theorem isM_M0 : isM (h_F hE0 hM0) (vBg 4 Vi) := by
  have e' : ∀ f a b, 7 ≤ f → vBg 4 Vi f a b = Vi f a b := fun f a b hf => by
    unfold vBg
    repeat rw [if_neg (by omega)]
  have em : vBg 4 Vi 0 1 0 = 0 := by unfold vBg; simp
  have e := hF_m
  have z : ∀ f a b, f ≠ 7 → Vi f a b = 0 := fun f a b hf => by unfold Vi; rw [if_neg hf]
  unfold isM
  rw [em]
  refine ⟨?_, ?_, ?_, ?_, fun i a b => ?_, fun i a b => ?_, fun i j a b c d => ?_, fun i j a b c d => ?_, fun i a b => ?_, fun i a b => ?_, fun i a b => ?_, fun i a b => ?_, fun i a b => ?_⟩
  · rw [e _ _ (by omega)]; unfold hM0 Mc2 Mc1 upd2 hi_Md vBg; simp
  · rw [e _ _ (by omega)]; exact hM0_0 _ (by omega)
  · rw [e _ _ (by omega)]; rw [show (126 - 126 : Int) = 0 from rfl, hM0_0 _ (by omega)]; unfold vBg; simp
  · rw [e _ _ (by omega)]; rw [show (126 - 126 : Int) = 0 from rfl, hM0_0 _ (by omega)]; unfold vBg; simp
  · rw [e _ _ (by omega), hM0_12 _ _ (by omega) a b]; unfold vBg; simp
  · rw [e _ _ (by omega), hM0_12 _ _ (by omega) a b]; unfold vBg; simp
  · rw [e _ _ (by omega), show (129 - 126 : Int) = 3 from rfl, hM0_3 _ (by omega) (by omega)]; unfold vBg; simp
  · omega
  · omega
  · omega
  · rw [e _ _ (by omega), show (133 - 126 : Int) = 7 from rfl, hM0_7, e' _ _ _ (by omega)]; unfold Vi; simp
  · rw [e _ _ (by omega), e _ _ (by omega), e _ _ (by omega), e' _ _ _ (by omega), e' _ _ _ (by omega), e' _ _ _ (by omega), z _ _ _ (by omega), z _ _ _ (by omega), z _ _ _ (by omega)]
    exact ⟨hM0_z _ _ (by omega) (by omega) (by omega), hM0_z _ _ (by omega) (by omega) (by omega), hM0_z _ _ (by omega) (by omega) (by omega)⟩
  · rw [e _ _ (by omega), e _ _ (by omega), e _ _ (by omega), e' _ _ _ (by omega), e' _ _ _ (by omega), e' _ _ _ (by omega), z _ _ _ (by omega), z _ _ _ (by omega), z _ _ _ (by omega)]
    exact ⟨hM0_z _ _ (by omega) (by omega) (by omega), hM0_z _ _ (by omega) (by omega) (by omega), hM0_z _ _ (by omega) (by omega) (by omega)⟩
theorem ok_V0 : okVw (vBg 4 Vi) := by
  refine okVw_Bg (by omega) ?_ (fun k a b => Or.inl ?_)
  · unfold Vi
    simp
  · unfold Vi
    simp
theorem im_0 : imOK (h_F hE0 hM0) := by
  have e1 : h_F hE0 hM0 0 3 = 0 := by
    unfold h_F h_Cb
    simp
  have e2 : h_F hE0 hM0 126 20 = 0 := by
    rw [hF_m _ _ (by omega)]
    exact hM0_0 _ (by omega)
  unfold imOK
  rw [e1, e2]
  exact ⟨Or.inl rfl, rfl, fun h => by omega⟩
theorem tx_0 : txOK (h_F hE0 hM0) := by
  have e1 : h_F hE0 hM0 91 0 = 0 := by
    unfold h_F h_Cb hi_Text
    simp
  have e2 : h_F hE0 hM0 126 18 = 0 := by
    rw [hF_m _ _ (by omega)]
    exact hM0_0 _ (by omega)
  unfold txOK
  rw [e1, e2]
  exact ⟨rfl, by omega, by omega, fun i a b => by omega⟩
theorem tp_0 : tpOK (h_F hE0 hM0) := by
  intro t a b
  have e0 : h_F hE0 hM0 162 t = -1 := by
    rw [hF_m _ _ (by omega)]
    exact hM0_36 t a b
  have e1 : h_F hE0 hM0 163 t = 0 := by
    rw [hF_m _ _ (by omega)]
    exact hM0_z _ _ (by omega) (by omega) (by omega)
  have e2 : h_F hE0 hM0 (2 * t + 114) 0 = -1 ∧ h_F hE0 hM0 (2 * t + 114) 1 = 0 ∧ ∀ i, h_F hE0 hM0 (2 * t + 115) i = 0 := by
    have : t = 0 ∨ t = 1 ∨ t = 2 ∨ t = 3 ∨ t = 4 ∨ t = 5 := by omega
    rcases this with e | e | e | e | e | e <;> subst e <;> (unfold h_F h_Cb hi_Tape; simp)
  have e3 : ∀ i, h_F hE0 hM0 (t + 156) i = 0 := fun i => by
    rw [hF_m _ _ (by omega)]
    exact hM0_z _ _ (by omega) (by omega) (by omega)
  obtain ⟨e4, e5, e6⟩ := e2
  rw [e0, e1, e4, e5]
  exact ⟨rfl, rfl, by omega, by omega, by omega, by omega, fun _ => rfl, fun i _ _ => by rw [e6, e3]⟩
theorem Rel_0 : Rel (h_F hE0 hM0) := ⟨vBg 4 Vi, isX_mv hF_x isX_E0, isM_M0, ok_V0, im_0, tx_0, tp_0⟩
