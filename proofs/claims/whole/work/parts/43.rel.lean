/-! PURE: what holds between the two sides -/
/-- the model's image -/
def isI (h : HP) (V : Vw) : Prop :=
  h 141 0 = V 0 0 0 ∧ h 141 1 = V 0 1 0 ∧ h 141 2 = V 0 2 0 ∧ h 141 3 = V 0 3 0 ∧
  (∀ i, 0 ≤ i → i < 8 → h 141 (i + 4) = V 1 i 0) ∧ (∀ i, 0 ≤ i → i < 8 → h 141 (i + 12) = V 2 i 0) ∧
  (∀ i a, 0 ≤ i → i < 8 → 0 ≤ a → a < 4 → h 141 (4 * i + a + 20) = V 3 i a) ∧
  (∀ c i, 0 ≤ c → c < V 0 1 0 → 0 ≤ i → i < 8 → h 141 (8 * c + i + 52) = V 4 c i) ∧
  (∀ c, 0 ≤ c → c < V 0 1 0 → h 141 (c + 116) = V 5 c 0) ∧ (∀ c, 0 ≤ c → c < V 0 1 0 → h 141 (c + 124) = V 6 c 0) ∧
  (∀ k, 0 ≤ k → k < 6 → h 141 (k + 132) = V 7 k 0) ∧
  (∀ k, 0 ≤ k → k < 5 → h 141 (k + 138) = V 8 k 0 ∧ h 141 (k + 143) = V 9 k 0 ∧ h 141 (k + 148) = V 10 k 0) ∧
  (∀ k, 0 ≤ k → k < 8 → h 141 (k + 153) = V 11 k 0 ∧ h 141 (k + 161) = V 12 k 0 ∧ h 141 (k + 169) = V 13 k 0)
def imOK (h : HP) : Prop := b01 (h 0 3) ∧ h 126 20 = h 0 3 ∧ (h 0 3 = 1 → ∃ W, isX 31 h W ∧ isI h W ∧ okVw W)
def txOK (h : HP) : Prop := h 91 0 = h 126 18 ∧ 0 ≤ h 126 18 ∧ h 126 18 ≤ 60 ∧ ∀ i, 0 ≤ i → i < h 126 18 → h 92 i = h 140 i ∧ 0 ≤ h 140 i ∧ h 140 i ≤ 127
def tpOK (h : HP) : Prop := ∀ t, 0 ≤ t → t < 6 → h (2 * t + 114) 0 = h 162 t ∧ h (2 * t + 114) 1 = h 163 t ∧ -1 ≤ h 162 t ∧ h 162 t ≤ 4 ∧ 0 ≤ h 163 t ∧ h 163 t ≤ 60 ∧ (h 162 t = -1 → h 163 t = 0) ∧ ∀ i, 0 ≤ i → i < 60 → h (2 * t + 115) i = h (t + 156) i
def Rl (h : HP) (V : Vw) : Prop := isX 1 h V ∧ isM h V ∧ okVw V ∧ imOK h ∧ txOK h ∧ tpOK h
/-- places that a call may use as it likes -/
def scr (p j : Int) : Prop := (61 ≤ p ∧ p ≤ 90) ∨ (94 ≤ p ∧ p ≤ 113) ∨ (p = 126 ∧ 21 ≤ j) ∨ (142 ≤ p ∧ p ≤ 155) ∨ p = 164
def frC (h h1 : HP) : Prop := ∀ p j, ¬ scr p j → h1 p j = h p j
theorem frC.rf (h : HP) : frC h h := fun _ _ _ => rfl
theorem frC.tr {h h1 h2 : HP} (a : frC h h1) (b : frC h1 h2) : frC h h2 := fun p j n => (b p j n).trans (a p j n)
theorem isX_fr {h h1 : HP} {V : Vw} {o : Int} (f : frC h h1) (ho : o = 1 ∨ o = 31) (X : isX o h V) : isX o h1 V := by
  have e : ∀ p j, 0 ≤ p → p ≤ 60 → h1 p j = h p j := fun p j a b => f p j (by unfold scr; omega)
  unfold isX at X ⊢
  obtain ⟨x0, x1, x2, x3, x4, x5, x6, x7, x8, x9, x10, x11, x12⟩ := X
  refine ⟨?_, ?_, ?_, ?_, fun i a b => ?_, fun i a b => ?_, fun i j a b c d => ?_, fun i j a b c d => ?_, fun i a b => ?_, fun i a b => ?_, fun i a b => ?_, fun i a b => ?_, fun i a b => ?_⟩
  · rw [e _ _ (by omega) (by omega)]; exact x0
  · rw [e _ _ (by omega) (by omega)]; exact x1
  · rw [e _ _ (by omega) (by omega)]; exact x2
  · rw [e _ _ (by omega) (by omega)]; exact x3
  · rw [e _ _ (by omega) (by omega)]; exact x4 i a b
  · rw [e _ _ (by omega) (by omega)]; exact x5 i a b
  · rw [e _ _ (by omega) (by omega)]; exact x6 i j a b c d
  · rw [e _ _ (by omega) (by omega)]; exact x7 i j a b c d
  · rw [e _ _ (by omega) (by omega)]; exact x8 i a b
  · rw [e _ _ (by omega) (by omega)]; exact x9 i a b
  · rw [e _ _ (by omega) (by omega)]; exact x10 i a b
  · rw [e _ _ (by omega) (by omega), e _ _ (by omega) (by omega), e _ _ (by omega) (by omega)]; exact x11 i a b
  · rw [e _ _ (by omega) (by omega), e _ _ (by omega) (by omega), e _ _ (by omega) (by omega)]; exact x12 i a b
/-- what the model's own cells say is what they said -/
def sameM (h h1 : HP) : Prop := (∀ j, (j ≤ 1 ∨ j = 15 ∨ j = 16) → h1 126 j = h 126 j) ∧ ∀ p j, 127 ≤ p → p ≤ 139 → h1 p j = h p j
theorem isM_sm {h h1 : HP} {V : Vw} (f : sameM h h1) (X : isM h V) : isM h1 V := by
  have e := f.2
  have e0 := f.1
  unfold isM at X ⊢
  obtain ⟨x0, x1, x2, x3, x4, x5, x6, x7, x8, x9, x10, x11, x12⟩ := X
  refine ⟨?_, ?_, ?_, ?_, fun i a b => ?_, fun i a b => ?_, fun i j a b c d => ?_, fun i j a b c d => ?_, fun i a b => ?_, fun i a b => ?_, fun i a b => ?_, fun i a b => ?_, fun i a b => ?_⟩
  · rw [e0 _ (by omega)]; exact x0
  · rw [e0 _ (by omega)]; exact x1
  · rw [e0 _ (by omega)]; exact x2
  · rw [e0 _ (by omega)]; exact x3
  · rw [e _ _ (by omega) (by omega)]; exact x4 i a b
  · rw [e _ _ (by omega) (by omega)]; exact x5 i a b
  · rw [e _ _ (by omega) (by omega)]; exact x6 i j a b c d
  · rw [e _ _ (by omega) (by omega)]; exact x7 i j a b c d
  · rw [e _ _ (by omega) (by omega)]; exact x8 i a b
  · rw [e _ _ (by omega) (by omega)]; exact x9 i a b
  · rw [e _ _ (by omega) (by omega)]; exact x10 i a b
  · rw [e _ _ (by omega) (by omega), e _ _ (by omega) (by omega), e _ _ (by omega) (by omega)]; exact x11 i a b
  · rw [e _ _ (by omega) (by omega), e _ _ (by omega) (by omega), e _ _ (by omega) (by omega)]; exact x12 i a b
theorem frC.sm {h h1 : HP} (f : frC h h1) : sameM h h1 := ⟨fun j hj => f _ _ (by unfold scr; omega), fun p j a b => f _ _ (by unfold scr; omega)⟩
theorem isI_sm {h h1 : HP} {V : Vw} (f : ∀ j, h1 141 j = h 141 j) (X : isI h V) : isI h1 V := by
  unfold isI at X ⊢
  simpa only [f] using X
theorem imOK_fr {h h1 : HP} (f : frC h h1) (X : imOK h) : imOK h1 := by
  obtain ⟨a, b, c⟩ := X
  have e : h1 0 3 = h 0 3 := f _ _ (by unfold scr; omega)
  have e1 : h1 126 20 = h 126 20 := f _ _ (by unfold scr; omega)
  refine ⟨by rwa [e], by rw [e, e1]; exact b, fun q => ?_⟩
  obtain ⟨W, x, y, z⟩ := c (by rwa [e] at q)
  exact ⟨W, isX_fr f (Or.inr rfl) x, isI_sm (fun j => f _ _ (by unfold scr; omega)) y, z⟩
theorem txOK_fr {h h1 : HP} (f : frC h h1) (X : txOK h) : txOK h1 := by
  have e : h1 91 0 = h 91 0 := f _ _ (by unfold scr; omega)
  have e1 : h1 126 18 = h 126 18 := f _ _ (by unfold scr; omega)
  have e2 : ∀ i, h1 92 i = h 92 i := fun i => f _ _ (by unfold scr; omega)
  have e3 : ∀ i, h1 140 i = h 140 i := fun i => f _ _ (by unfold scr; omega)
  unfold txOK at X ⊢
  simpa only [e, e1, e2, e3] using X
theorem tpOK_fr {h h1 : HP} (f : frC h h1) (X : tpOK h) : tpOK h1 := by
  intro t a b
  have e0 : ∀ j, h1 (2 * t + 114) j = h (2 * t + 114) j := fun j => f _ _ (by unfold scr; omega)
  have e1 : ∀ j, h1 (2 * t + 115) j = h (2 * t + 115) j := fun j => f _ _ (by unfold scr; omega)
  have e2 : ∀ j, h1 162 j = h 162 j := fun j => f _ _ (by unfold scr; omega)
  have e3 : ∀ j, h1 163 j = h 163 j := fun j => f _ _ (by unfold scr; omega)
  have e4 : ∀ j, h1 (t + 156) j = h (t + 156) j := fun j => f _ _ (by unfold scr; omega)
  have := X t a b
  simpa only [e0, e1, e2, e3, e4] using this
theorem Rl_fr {h h1 : HP} {V : Vw} (f : frC h h1) (R : Rl h V) : Rl h1 V := ⟨isX_fr f (Or.inl rfl) R.1, isM_sm f.sm R.2.1, R.2.2.1, imOK_fr f R.2.2.2.1, txOK_fr f R.2.2.2.2.1, tpOK_fr f R.2.2.2.2.2⟩
def Rel (h : HP) : Prop := ∃ V, Rl h V
/-- one call, both sides -/
def AA (f : HP → Option (Int × HP)) (g : HP → Option (Int × HP)) : Prop := ∀ h, Rel h → ∃ a h1 h2, f h = some (a, h1) ∧ g h1 = some (a, h2) ∧ Rel h2
def AP (f : HP → Option (Int × HP)) (g : HP → Option Int) : Prop := ∀ h, Rel h → ∃ a h1, f h = some (a, h1) ∧ g h1 = some a ∧ Rel h1
def PA (f : HP → Option Int) (g : HP → Option (Int × HP)) : Prop := ∀ h, Rel h → ∃ a h1, f h = some a ∧ g h = some (a, h1) ∧ Rel h1
def PP (f : HP → Option Int) (g : HP → Option Int) : Prop := ∀ h, Rel h → ∃ a, f h = some a ∧ g h = some a
