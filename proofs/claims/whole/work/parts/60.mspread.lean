/-! PURE: the model's spread -/
/-- ways and more: so many of before, so much further on -/
def Ad (some' more k : Int) (h : HP) : HP := fun p j => if p = 142 ∧ more ≤ j ∧ j < k then h 142 j + some' * h 143 (j - more) else h p j
theorem M_adds {h : HP} {w more : Int} (hm : 0 ≤ more ∧ more ≤ 32) (hb : ∀ j, more ≤ j → j < 33 → inL (w * h 143 (j - more)) ∧ inL (h 142 j + w * h 143 (j - more))) : m_Md_adds 126 w more h = some (Ad w more 33 h) := by
  unfold m_Md_adds m_Md_adds_L3
  refine loop_seq (fun k => (k, Ad w more k h)) more 33 (by omega) (by omega) ?_ (fun k h0 h1 => ?_) ?_
  · refine pr_eq ?_
    funext p j
    unfold Ad
    rw [if_neg (by omega)]
  · have hk := hb k h0 h1
    unfold inL at hk
    have e1 : Ad w more k h 142 k = h 142 k := by
      unfold Ad
      rw [if_neg (by omega)]
    have e2 : Ad w more k h 143 (k - more) = h 143 (k - more) := by
      unfold Ad
      rw [if_neg (by omega)]
    (try dsimp only)
    unfold m_Md_adds_L3b
    simp (disch := omega) only [if_pos, if_neg, bv_some, w32_id, Int.reduceAdd]
    rw [e1, e2, w64_id (x := w * h 143 (k - more)) (by omega) (by omega), w64_id (by omega) (by omega)]
    refine in_eq ?_
    funext p j
    unfold Ad upd2
    ((try dsimp only); repeat' split) <;> first | rfl | (exfalso; omega) | (rw [show j = k by omega])
  · (try dsimp only)
    unfold m_Md_adds_L3b
    rw [if_pos (by omega)]
def wor (V : Vw) (i a : Int) : Int := if a = V 1 i 0 then V 7 4 0 else V 7 5 0
theorem wor_bd {V : Vw} (K : okVw V) (i a : Int) : 0 ≤ wor V i a ∧ wor V i a ≤ 4 := by
  have := K.us
  unfold wor
  split <;> omega
/-- the weights below a, together, put on what was before -/
def Pw (V : Vw) (x y s i : Int) (f : Int → Int) (a k : Int) : Int := Sm (fun b => cw V x y s i b * f (k - wor V i b)) a
def frM (h h1 : HP) : Prop := ∀ p j, ¬ (p = 142 ∨ p = 143 ∨ (p = 126 ∧ j = 28)) → h1 p j = h p j
theorem frM.sm {h h1 : HP} (f : frM h h1) : sameM h h1 := ⟨fun j hj => f _ _ (by omega), fun p j a b => f _ _ (by omega)⟩
theorem frM.tr {h h1 h2 : HP} (a : frM h h1) (b : frM h1 h2) : frM h h2 := fun p j n => (b p j n).trans (a p j n)
section Comes
variable {h : HP} {V : Vw} {x y s i B : Int} {f : Int → Int}
theorem Pw_bd (K : okVw V) (hi : 0 ≤ i ∧ i < 8) (hf : ∀ k, 0 ≤ f k ∧ f k ≤ B) {a : Int} (ha : 0 ≤ a ∧ a ≤ 4) (k : Int) : 0 ≤ Pw V x y s i f a k ∧ Pw V x y s i f a k ≤ Sm (cw V x y s i) a * B := by
  unfold Pw
  exact Sm_mulB ha.1 (fun b b0 b1 => cw_nn K hi (by omega)) (fun b _ _ => hf _)
/-- all answers' weights, sorted -/
theorem Pw_4 (K : okVw V) (hi : 0 ≤ i ∧ i < 8) (k : Int) : Pw V x y s i f 4 k = f (k - V 7 4 0) * cw V x y s i (V 1 i 0) + f (k - V 7 5 0) * Sm (fun a => if a = V 1 i 0 then 0 else cw V x y s i a) 4 := by
  have hk := K.ky i hi.1 hi.2
  unfold Pw wor
  rw [Sm_out _ (k := V 1 i 0) (by omega)]
  (try dsimp only)
  rw [if_pos rfl, Int.mul_comm]
  congr 1
  rw [Sm4, Sm4]
  simp only [Int.mul_add]
  have e : ∀ a : Int, (if a = V 1 i 0 then 0 else cw V x y s i a * f (k - if a = V 1 i 0 then V 7 4 0 else V 7 5 0)) = f (k - V 7 5 0) * (if a = V 1 i 0 then 0 else cw V x y s i a) := fun a => by
    by_cases c : a = V 1 i 0
    · rw [if_pos c, if_pos c, Int.mul_zero]
    · rw [if_neg c, if_neg c, if_neg c, Int.mul_comm]
  rw [e, e, e, e]
/-- the loop over the answers, and what is behind it -/
theorem M_comesW (M : isM h V) (K : okVw V) (hi : 0 ≤ i ∧ i < 8) (gx : 0 ≤ V 4 x i ∧ V 4 x i < 4) (hns : ¬ shrt V x y s i) (hs : 0 ≤ s ∧ s ≤ 3) (hf : ∀ k, 0 ≤ f k ∧ f k ≤ B) (hf0 : ∀ k, k < 0 → f k = 0) (hB : 1 ≤ B ∧ B ≤ 184884258895036416) (hBn : B * cN V x y s i ≤ 184884258895036416) (h28 : h 126 28 = B) (h142 : ∀ k, 0 ≤ k → k < 33 → h 142 k = 0) (h143 : ∀ k, 0 ≤ k → k < 33 → h 143 k = f k) : ∃ h1, m_Md_comes_L190 126 i x y s (V 4 x i) (V 1 i 0) (if gvn s then 1 else 0) (cN V x y s i) (cN V x y s i, 0, h) = some h1 ∧ (∀ k, 0 ≤ k → k < 33 → h1 142 k = wst (V 7 4 0) (V 7 5 0) (cA V x y s i) (cB V x y s i) (cN V x y s i) f k) ∧ h1 126 28 = B * cN V x y s i ∧ frM h h1 := by
  have hN := cN_bd K (x := x) (y := y) (s := s) hi
  have hky := K.ky i hi.1 hi.2
  have hsum := cw_sum K (x := x) (y := y) (s := s) hi
  have eN : cN V x y s i = if s < 2 then cS V x y s i * cS V x y s i else cS V x y s i := by
    unfold cN
    rw [if_neg hns]
  rw [← eN] at hsum
  have hpart : ∀ a, 0 ≤ a → a ≤ 4 → 0 ≤ Sm (cw V x y s i) a ∧ Sm (cw V x y s i) a ≤ Sm (cw V x y s i) 4 := fun a a0 a1 => ⟨Sm_nn a0 (fun b b0 b1 => cw_nn K hi (by omega)), Sm_mono a0 a1 (fun b b0 b1 => cw_nn K hi (by omega))⟩
  have hprod : ∀ a, 0 ≤ a → a ≤ 4 → Sm (cw V x y s i) a * B ≤ B * cN V x y s i := fun a a0 a1 => by
    rw [Int.mul_comm]
    exact Int.mul_le_mul_of_nonneg_left (by have := hpart a a0 a1; omega) (by omega)
  unfold m_Md_comes_L190
  refine loop_ex (fun a t => t.1 = cN V x y s i - Sm (cw V x y s i) a ∧ t.2.1 = a ∧ (∀ k, 0 ≤ k → k < 33 → t.2.2 142 k = Pw V x y s i f a k) ∧ (∀ p j, p ≠ 142 → t.2.2 p j = h p j)) 0 4 _ (by omega) (by omega) ⟨by rw [Sm_0]; omega, rfl, fun k k0 k1 => h142 k k0 k1, fun p j q => rfl⟩ (fun a t a0 a1 hS => ?_) (fun t hS => ?_)
  · obtain ⟨l, a', g⟩ := t
    obtain ⟨e1, e2, hP, hfr⟩ := hS
    (try dsimp only at e1 e2 hP hfr ⊢)
    subst e1 e2
    have Mg : isM g V := isM_sm ⟨fun j _ => hfr _ _ (by omega), fun p j a b => hfr _ _ (by omega)⟩ M
    have hca := cw_nn K (x := x) (y := y) (s := s) hi (a := a') (by omega)
    have h5 := hpart (a' + 1) (by omega) (by omega)
    have h6 := hpart a' (by omega) (by omega)
    have es : Sm (cw V x y s i) (a' + 1) = Sm (cw V x y s i) a' + cw V x y s i a' := Sm_s _ a0
    have hw := wor_bd K i a'
    have fin : m_Md_comes_J265 126 i x y s (V 4 x i) (V 1 i 0) (if gvn s then 1 else 0) (cN V x y s i) (cN V x y s i - Sm (cw V x y s i) a') a' (cw V x y s i a') g = some (.inl (cN V x y s i - Sm (cw V x y s i) (a' + 1), a' + 1, Ad (cw V x y s i a') (wor V i a') 33 g)) := by
      unfold m_Md_comes_J265
      rw [M_worth Mg hi]
      have hw2 : (if a' = V 1 i 0 then V 7 4 0 else V 7 5 0) = wor V i a' := rfl
      rw [hw2]
      simp only [b1_some]
      rw [M_adds ⟨hw.1, by omega⟩ (fun j j0 j1 => by
        have e3 : g 143 (j - wor V i a') = f (j - wor V i a') := by
          rw [hfr _ _ (by omega)]
          exact h143 _ (by omega) (by omega)
        have h7 := Pw_bd K (x := x) (y := y) (s := s) hi hf (a := a' + 1) (by omega) j
        have h8 := Pw_bd K (x := x) (y := y) (s := s) hi hf (a := a') (by omega) j
        have h9 := hprod (a' + 1) (by omega) (by omega)
        have h10 : Pw V x y s i f (a' + 1) j = Pw V x y s i f a' j + cw V x y s i a' * f (j - wor V i a') := by
          unfold Pw
          rw [Sm_s _ a0]
        have h11 := Int.mul_nonneg hca (hf (j - wor V i a')).1
        rw [e3, hP j (by omega) j1]
        unfold inL
        omega)]
      simp only [b1_some, bv_some]
      rw [w64_id (by omega) (by omega), w32_id (by omega) (by omega), es, Int.sub_sub]
    refine ⟨(cN V x y s i - Sm (cw V x y s i) (a' + 1), a' + 1, Ad (cw V x y s i a') (wor V i a') 33 g), ?_, ?_⟩
    · unfold m_Md_comes_L190b
      rw [if_neg (by omega)]
      have sv : ∀ s0, (s0 = if ¬ (gvn s ∧ a' = V 1 i 0) ∧ (s < 2 ∨ a' = V 4 x i) then (1 : Int) else 0) → m_Md_comes_J226 126 i x y s (V 4 x i) (V 1 i 0) (if gvn s then 1 else 0) (cN V x y s i) (cN V x y s i - Sm (cw V x y s i) a') a' s0 g = some (.inl (cN V x y s i - Sm (cw V x y s i) (a' + 1), a' + 1, Ad (cw V x y s i a') (wor V i a') 33 g)) := fun s0 hs0 => by
        have hb := sh_bd K (x := x) (y := y) hi (a := a') (by omega)
        have hsq := Int.mul_le_mul hb.2 hb.2 (by omega) (by omega)
        have hsq0 := Int.mul_nonneg (show 0 ≤ sh V i x y a' by omega) (show 0 ≤ sh V i x y a' by omega)
        have ect : ct V x y s i a' = if gvn s ∧ a' = V 1 i 0 then 0 else sh V i x y a' := by
          unfold ct
          (repeat' split) <;> first | rfl | (exfalso; omega)
        unfold m_Md_comes_J226 m_Md_comes_J247
        rw [M_shareOf Mg K hi (by omega)]
        simp only [b1_some]
        by_cases c1 : gvn s ∧ a' = V 1 i 0
        · rw [if_neg (by omega)] at hs0
          have ecw : cw V x y s i a' = 0 := by
            unfold cw
            rw [ect, if_pos c1]
            (repeat' split) <;> rfl
          rw [ecw] at fin
          rw [ecw, hs0, if_pos rfl, w64_id (by omega) (by omega)]
          split
          · exact fin
          · exact fin
        · rw [if_neg c1] at ect
          by_cases c2 : s < 2
          · rw [if_pos (by omega)] at hs0
            have ecw : cw V x y s i a' = sh V i x y a' * sh V i x y a' := by
              unfold cw
              rw [ect, if_pos c2]
            rw [ecw] at fin
            rw [ecw, hs0, if_neg (by omega), if_neg (by omega), w64_id (by omega) (by omega)]
            exact fin
          · by_cases c3 : a' = V 4 x i
            · rw [if_pos (by omega)] at hs0
              have ecw : cw V x y s i a' = sh V i x y a' := by
                unfold cw
                rw [ect, if_neg c2, if_pos c3]
              rw [ecw] at fin
              rw [ecw, hs0, if_neg (by omega), if_pos (by omega)]
              exact fin
            · rw [if_neg (by omega)] at hs0
              have ecw : cw V x y s i a' = 0 := by
                unfold cw
                rw [if_neg c2, if_neg c3]
              rw [ecw] at fin
              rw [ecw, hs0, if_pos rfl, if_pos (by omega)]
              exact fin
      unfold m_Md_comes_J208 m_Md_comes_J221 m_Md_comes_J225
      (repeat' split) <;> first | (refine sv _ ?_; (repeat' split) <;> first | rfl | (exfalso; omega)) | (exfalso; omega)
    · refine ⟨rfl, rfl, fun k k0 k1 => ?_, fun p j q => ?_⟩
      · have e3 : 0 ≤ k - wor V i a' → g 143 (k - wor V i a') = f (k - wor V i a') := fun q => by
          rw [hfr _ _ (by omega)]
          exact h143 _ (by omega) (by omega)
        have h10 : Pw V x y s i f (a' + 1) k = Pw V x y s i f a' k + cw V x y s i a' * f (k - wor V i a') := by
          unfold Pw
          rw [Sm_s _ a0]
        unfold Ad
        (try dsimp only)
        rw [h10, hP k k0 k1]
        split
        · rw [e3 (by omega)]
        · rw [hf0 (k - wor V i a') (by omega), Int.mul_zero, Int.add_zero]
      · unfold Ad
        (try dsimp only)
        rw [if_neg (by omega)]
        exact hfr p j q
  · obtain ⟨l, a', g⟩ := t
    obtain ⟨e1, e2, hP, hfr⟩ := hS
    (try dsimp only at e1 e2 hP hfr ⊢)
    subst e1 e2
    have e3 : ∀ j, 0 ≤ j → j < 33 → g 143 j = f j := fun j j0 j1 => by
      rw [hfr _ _ (by omega)]
      exact h143 _ j0 j1
    have h4 := hpart 4 (by omega) (by omega)
    have tot : ∀ j, 0 ≤ (cN V x y s i - Sm (cw V x y s i) 4) * f j ∧ Pw V x y s i f 4 j + (cN V x y s i - Sm (cw V x y s i) 4) * f j ≤ 184884258895036416 ∧ 0 ≤ Pw V x y s i f 4 j := fun j => by
      have h7 := Pw_bd K (x := x) (y := y) (s := s) hi hf (a := 4) (by omega) j
      have h8 := Int.mul_nonneg (show 0 ≤ cN V x y s i - Sm (cw V x y s i) 4 by omega) (hf j).1
      have h9 := Int.mul_le_mul_of_nonneg_left (hf j).2 (show 0 ≤ cN V x y s i - Sm (cw V x y s i) 4 by omega)
      have h10 : Sm (cw V x y s i) 4 * B + (cN V x y s i - Sm (cw V x y s i) 4) * B = B * cN V x y s i := by
        rw [← Int.add_mul, Int.mul_comm]
        congr 1
        omega
      omega
    have hBN0 := Int.mul_nonneg (show 0 ≤ B by omega) (show 0 ≤ cN V x y s i by omega)
    unfold m_Md_comes_L190b m_Md_comes_J293
    rw [if_pos (by omega), M_adds (by omega) (fun j j0 j1 => by
      rw [Int.sub_zero, e3 j j0 j1, hP j j0 j1]
      have := tot j
      unfold inL
      omega)]
    simp only [b1_some, bv_some]
    have e28 : Ad (cN V x y s i - Sm (cw V x y s i) 4) 0 33 g 126 28 = B := by
      unfold Ad
      rw [if_neg (by omega), hfr _ _ (by omega), h28]
    rw [e28, w64_id (by omega) (by omega)]
    refine ⟨_, rfl, fun k k0 k1 => ?_, upd2_eq _ _ _ _, fun p j q => ?_⟩
    · rw [upd2_np _ (by omega)]
      unfold Ad
      rw [if_pos (by omega), Int.sub_zero, e3 k k0 k1, hP k k0 k1, Pw_4 K hi]
      unfold wst
      have ea : cA V x y s i = cw V x y s i (V 1 i 0) := by
        unfold cA
        rw [if_neg hns]
      have eb : cB V x y s i = Sm (fun a => if a = V 1 i 0 then 0 else cw V x y s i a) 4 := by
        unfold cB
        rw [if_neg hns]
      have eab := Sm_out (cw V x y s i) (k := V 1 i 0) (by omega)
      rw [← ea, ← eb] at eab ⊢
      rw [eab, Int.mul_comm (cN V x y s i - _) (f k), Int.sub_sub]
      omega
    · unfold upd2 Ad
      (try dsimp only)
      rw [if_neg (by omega), if_neg (by omega)]
      exact hfr p j (by omega)
/-- before becomes ways, ways become 0 -/
def Cp (k : Int) (h : HP) : HP := fun p j => if p = 143 ∧ 0 ≤ j ∧ j < k then h 142 j else if p = 142 ∧ 0 ≤ j ∧ j < k then 0 else h p j
theorem M_comes (M : isM h V) (K : okVw V) (hi : 0 ≤ i ∧ i < 8) (hx : 0 ≤ x ∧ x < V 0 1 0) (hy : 0 ≤ y ∧ y < V 0 1 0) (gxy : 0 ≤ V 4 x i ∧ 0 ≤ V 4 y i) (hs : 0 ≤ s ∧ s ≤ 3) (hf : ∀ k, 0 ≤ f k ∧ f k ≤ B) (hf0 : ∀ k, k < 0 → f k = 0) (hB : 1 ≤ B ∧ B ≤ 184884258895036416) (hBn : B * cN V x y s i ≤ 184884258895036416) (h28 : h 126 28 = B) (h142 : ∀ k, 0 ≤ k → k < 33 → h 142 k = f k) : ∃ h1, m_Md_comes 126 i x y s h = some h1 ∧ (∀ k, 0 ≤ k → k < 33 → h1 142 k = wst (V 7 4 0) (V 7 5 0) (cA V x y s i) (cB V x y s i) (cN V x y s i) f k) ∧ h1 126 28 = B * cN V x y s i ∧ frM h h1 := by
  have hm := K.m
  have hu := K.us
  have gx4 := K.gv x i (by omega) (by omega) hi.1 hi.2
  have gy4 := K.gv y i (by omega) (by omega) hi.1 hi.2
  have hky := K.ky i hi.1 hi.2
  have Mc : isM (Cp 33 h) V := isM_sm ⟨fun j _ => by
    unfold Cp
    rw [if_neg (by omega), if_neg (by omega)], fun p j a b => by
    unfold Cp
    rw [if_neg (by omega), if_neg (by omega)]⟩ M
  have c142 : ∀ k, 0 ≤ k → k < 33 → Cp 33 h 142 k = 0 := fun k k0 k1 => by
    unfold Cp
    rw [if_neg (by omega), if_pos (by omega)]
  have c143 : ∀ k, 0 ≤ k → k < 33 → Cp 33 h 143 k = f k := fun k k0 k1 => by
    unfold Cp
    rw [if_pos (by omega)]
    exact h142 k k0 k1
  have c28 : Cp 33 h 126 28 = B := by
    unfold Cp
    rw [if_neg (by omega), if_neg (by omega)]
    exact h28
  have frc : frM h (Cp 33 h) := fun p j q => by
    unfold Cp
    rw [if_neg (by omega), if_neg (by omega)]
  have key : ∃ h1, m_Md_comes_J83 126 i x y s (V 4 x i) (V 4 y i) (V 1 i 0) (Cp 33 h) = some h1 ∧ (∀ k, 0 ≤ k → k < 33 → h1 142 k = wst (V 7 4 0) (V 7 5 0) (cA V x y s i) (cB V x y s i) (cN V x y s i) f k) ∧ h1 126 28 = B * cN V x y s i ∧ frM h h1 := by
    by_cases c : shrt V x y s i
    · have eA : cA V x y s i = if V 4 x i = V 4 y i then 1 else 0 := by
        unfold cA
        rw [if_pos c]
      have eB : cB V x y s i = 0 := by
        unfold cB
        rw [if_pos c]
      have eN : cN V x y s i = 1 := by
        unfold cN
        rw [if_pos c]
      have eJ : m_Md_comes_J83 126 i x y s (V 4 x i) (V 4 y i) (V 1 i 0) (Cp 33 h) = m_Md_comes_J121 126 (V 4 x i) (V 4 y i) (Cp 33 h) := by
        have c1 := c.1
        have c2 := c.2
        unfold gvn at c1
        unfold m_Md_comes_J83 m_Md_comes_J95 m_Md_comes_J100
        (repeat' split) <;> first | rfl | (exfalso; omega)
      have ad : ∀ more, 0 ≤ more ∧ more ≤ 32 → m_Md_adds 126 1 more (Cp 33 h) = some (Ad 1 more 33 (Cp 33 h)) := fun more hm => M_adds hm (fun j j0 j1 => by
        have := hf (j - more)
        rw [c143 _ (by omega) (by omega), c142 _ (by omega) j1]
        unfold inL
        omega)
      have av : ∀ more, 0 ≤ more ∧ more ≤ 32 → ∀ k, 0 ≤ k → k < 33 → Ad 1 more 33 (Cp 33 h) 142 k = f (k - more) := fun more hm k k0 k1 => by
        unfold Ad
        split
        · rw [c142 k k0 k1, c143 _ (by omega) (by omega)]
          omega
        · rw [c142 k k0 k1, hf0 _ (by omega)]
      have a28 : ∀ more, Ad 1 more 33 (Cp 33 h) 126 28 = B := fun more => by
        unfold Ad
        rw [if_neg (by omega)]
        exact c28
      have afr : ∀ more, frM h (Ad 1 more 33 (Cp 33 h)) := fun more p j q => by
        unfold Ad
        rw [if_neg (by omega)]
        exact frc p j q
      rw [eJ, eA, eB, eN]
      unfold m_Md_comes_J121 m_Md_comes_J140
      simp only [Int.reduceAdd]
      rw [Mc.us (by omega) (by omega), ad _ (show 0 ≤ V 7 4 0 ∧ V 7 4 0 ≤ 32 by omega), ad 0 (by omega)]
      simp only [b1_some]
      by_cases q : V 4 x i = V 4 y i
      · rw [if_pos q, if_pos q]
        refine ⟨_, rfl, fun k k0 k1 => ?_, ?_, afr _⟩
        · rw [av _ (by omega) k k0 k1]
          unfold wst
          omega
        · rw [a28]
          omega
      · rw [if_neg q, if_neg q]
        refine ⟨_, rfl, fun k k0 k1 => ?_, ?_, afr _⟩
        · rw [av _ (by omega) k k0 k1, Int.sub_zero]
          unfold wst
          omega
        · rw [a28]
          omega
    · obtain ⟨h1, e1, q1, q2, q3⟩ := M_comesW (x := x) (y := y) (s := s) (i := i) (B := B) (f := f) Mc K hi ⟨gxy.1, by omega⟩ c hs hf hf0 hB hBn c28 c142 c143
      refine ⟨h1, ?_, q1, q2, frc.tr q3⟩
      rw [← e1]
      have eS : ∀ but, (but = if gvn s then V 1 i 0 else -1) → m_Md_sumBut 126 i but x y (Cp 33 h) = some (cS V x y s i) := fun but hb => by
        rw [hb]
        exact M_sumBut Mc K hi
      have hcS := cS_bd K (x := x) (y := y) (s := s) hi
      have hsq := Int.mul_le_mul hcS.2 hcS.2 (by omega) (by omega)
      have hsq0 := Int.mul_nonneg (show 0 ≤ cS V x y s i by omega) (show 0 ≤ cS V x y s i by omega)
      have e144 : m_Md_comes_J144 126 i x y s (V 4 x i) (V 1 i 0) (if gvn s then 1 else 0) (Cp 33 h) = m_Md_comes_L190 126 i x y s (V 4 x i) (V 1 i 0) (if gvn s then 1 else 0) (cN V x y s i) (cN V x y s i, 0, Cp 33 h) := by
        have eN : cN V x y s i = if s < 2 then cS V x y s i * cS V x y s i else cS V x y s i := by
          unfold cN
          rw [if_neg c]
        unfold m_Md_comes_J144 m_Md_comes_J157
        by_cases g : gvn s
        · rw [if_neg (by rw [if_pos g]; omega), eS _ (by rw [if_pos g])]
          simp only [b1_some, bv_some]
          rw [eN]
          by_cases s2 : s < 2
          · rw [if_neg (by omega), w64_id (by omega) (by omega), if_pos s2]
          · rw [if_pos (by omega), if_neg s2]
        · rw [if_pos (by rw [if_neg g]), eS _ (by rw [if_neg g])]
          simp only [b1_some, bv_some]
          rw [eN]
          by_cases s2 : s < 2
          · rw [if_neg (by omega), w64_id (by omega) (by omega), if_pos s2]
          · rw [if_pos (by omega), if_neg s2]
      rw [← e144]
      unfold m_Md_comes_J83 m_Md_comes_J95 m_Md_comes_J100
      by_cases g : gvn s
      · have c2 : ¬ (V 4 x i = V 1 i 0 ∨ V 4 y i = V 1 i 0) := fun q => c ⟨g, q⟩
        rw [if_pos g]
        unfold gvn at g
        (repeat' split) <;> first | rfl | (exfalso; omega)
      · rw [if_neg g]
        unfold gvn at g
        (repeat' split) <;> first | rfl | (exfalso; omega)
  obtain ⟨h1, e1, q⟩ := key
  refine ⟨h1, ?_, q⟩
  unfold m_Md_comes m_Md_comes_L48
  rw [w32_id (x := 8 * x) (by omega) (by omega), w32_id (x := 8 * y) (by omega) (by omega), w32_id (by omega) (by omega), w32_id (by omega) (by omega)]
  simp (disch := omega) only [Int.reduceAdd, if_pos, if_neg, bv_some, M.gv, M.ky]
  refine loop_seq (fun k => (k, Cp k h)) 0 33 (by omega) (by omega) ?_ (fun k h0 h1 => ?_) ?_
  · refine pr_eq ?_
    funext p j
    unfold Cp
    rw [if_neg (by omega), if_neg (by omega)]
  · (try dsimp only)
    unfold m_Md_comes_L48b
    simp (disch := omega) only [if_pos, if_neg, bv_some, w32_id, Int.reduceAdd]
    refine in_eq ?_
    funext p j
    unfold Cp upd2
    ((try dsimp only); repeat' split) <;> first | rfl | (exfalso; omega) | (congr 1; omega)
  · (try dsimp only)
    unfold m_Md_comes_L48b
    rw [if_pos (by omega), e1]
    rfl
end Comes
/-- what the model holds when items below n are spread -/
def Msp (V : Vw) (x y s but n : Int) (h : HP) : Prop := (∀ k, 0 ≤ k → k < 33 → h 142 k = Wy V x y s but n k) ∧ h 126 28 = By V x y s but n
theorem M_spreads {h : HP} {V : Vw} (M : isM h V) (K : okVw V) {x y s but : Int} (hx : 0 ≤ x ∧ x < V 0 1 0) (hy : 0 ≤ y ∧ y < V 0 1 0) (hs : 0 ≤ s ∧ s ≤ 3) : ∃ h1, m_Md_spreads 126 x y s but h = some h1 ∧ Msp V x y s but (V 0 0 0) h1 ∧ frM h h1 := by
  have hn := K.n
  have hm := K.m
  unfold m_Md_spreads m_Md_spreads_L3
  refine loop_ex (fun k t => t.1 = k ∧ (∀ j, 0 ≤ j → j < k → t.2 142 j = if j = 0 then 1 else 0) ∧ frM h t.2) 0 33 (fun h1 => Msp V x y s but (V 0 0 0) h1 ∧ frM h h1) (by omega) (by omega) ⟨rfl, fun j a b => by omega, fun p j a => rfl⟩ (fun k t k0 k1 hS => ?_) (fun t hS => ?_)
  · obtain ⟨k', g⟩ := t
    obtain ⟨e, h1, h2⟩ := hS
    (try dsimp only at e h1 h2 ⊢)
    subst e
    have st : ∀ v, (v = if k' = 0 then (1 : Int) else 0) → ∃ t, m_Md_spreads_J26 126 x y s but k' 142 k' v g = some (.inl t) ∧ t.1 = k' + 1 ∧ (∀ j, 0 ≤ j → j < k' + 1 → t.2 142 j = if j = 0 then 1 else 0) ∧ frM h t.2 := fun v hv => by
      unfold m_Md_spreads_J26
      rw [if_pos (by omega), w32_id (by omega) (by omega)]
      refine ⟨_, rfl, rfl, fun j a b => ?_, fun p j a => ?_⟩
      · unfold upd2
        (try dsimp only)
        split
        · rw [hv, show j = k' by omega]
        · exact h1 j a (by omega)
      · unfold upd2
        (try dsimp only)
        rw [if_neg (by omega)]
        exact h2 p j a
    unfold m_Md_spreads_L3b
    rw [if_neg (by omega)]
    simp only [Int.reduceAdd]
    by_cases c : k' = 0
    · rw [if_pos c]
      exact st 1 (by rw [if_pos c])
    · rw [if_neg c]
      exact st 0 (by rw [if_neg c])
  · obtain ⟨k', g⟩ := t
    obtain ⟨e, h1, h2⟩ := hS
    (try dsimp only at e h1 h2 ⊢)
    subst e
    unfold m_Md_spreads_L3b
    rw [if_pos (by omega)]
    have key : ∃ h1, m_Md_spreads_J33 126 x y s but g = some h1 ∧ Msp V x y s but (V 0 0 0) h1 ∧ frM h h1 := by
      have hfr : frM h (upd2 g 126 28 1) := fun p j a => by
        unfold upd2
        rw [if_neg (by omega)]
        exact h2 p j a
      unfold m_Md_spreads_J33 m_Md_spreads_L41
      simp only [bv_some]
      refine loop_ex (fun n t => t.1 = n ∧ Msp V x y s but n t.2 ∧ frM h t.2) 0 (V 0 0 0) (fun h1 => Msp V x y s but (V 0 0 0) h1 ∧ frM h h1) (by omega) (by omega) ⟨rfl, ⟨fun k k0 k1 => ?_, show upd2 g 126 28 1 126 28 = 1 from upd2_eq _ _ _ _⟩, hfr⟩ (fun n t n0 n1 hS => ?_) (fun t hS => ?_)
      · show upd2 g 126 28 1 142 k = if k = 0 then 1 else 0
        rw [upd2_np _ (by omega)]
        exact h1 k k0 k1
      · obtain ⟨n', g1⟩ := t
        obtain ⟨e2, hO, hf⟩ := hS
        (try dsimp only at e2 hO hf ⊢)
        subst e2
        have Mn : isM g1 V := isM_sm hf.sm M
        have hb8 : 0 ≤ n' ∧ n' ≤ 8 := by omega
        have skip : ¬ inc V x y but n' → Msp V x y s but (n' + 1) g1 := fun ni => by
          unfold Msp
          rw [Wy_s n0, By_s n0, if_neg ni, if_neg ni]
          exact hO
        unfold m_Md_spreads_L41b
        rw [Mn.n, if_neg (by omega)]
        by_cases c : n' = but
        · rw [if_pos c, w32_id (by omega) (by omega)]
          exact ⟨_, rfl, rfl, skip (fun q => q.1 c), hf⟩
        · rw [if_neg c]
          by_cases c2 : 0 ≤ V 4 x n' ∧ 0 ≤ V 4 y n'
          · have yi : inc V x y but n' := ⟨c, c2⟩
            have hBy := By_bd (x := x) (y := y) (s := s) (but := but) K hb8
            have hBy1 := By_bd (x := x) (y := y) (s := s) (but := but) (n := n' + 1) K (by omega)
            have eBy := By_s (V := V) (x := x) (y := y) (s := s) (but := but) n0
            rw [if_pos yi] at eBy
            have eWy := Wy_s (V := V) (x := x) (y := y) (s := s) (but := but) n0
            rw [if_pos yi] at eWy
            obtain ⟨h3, e3, q1, q2, q3⟩ := M_comes (x := x) (y := y) (s := s) (i := n') (B := By V x y s but n') (f := Wy V x y s but n') Mn K (by omega) hx hy c2 hs (fun k => Wy_bd K k hb8) (fun k hk => Wy_neg K hb8 hk) hBy (by rw [← eBy]; exact hBy1.2) hO.2 hO.1
            rw [e3]
            simp only [b1_some]
            rw [w32_id (by omega) (by omega)]
            refine ⟨_, rfl, rfl, ⟨fun k k0 k1 => ?_, ?_⟩, hf.tr q3⟩
            · rw [eWy]
              exact q1 k k0 k1
            · rw [eBy]
              exact q2
          · have e3 : m_Md_comes 126 n' x y s g1 = some g1 := by
              unfold m_Md_comes
              rw [w32_id (x := 8 * x) (by omega) (by omega), w32_id (x := 8 * y) (by omega) (by omega), w32_id (by omega) (by omega), w32_id (by omega) (by omega)]
              simp (disch := omega) only [Int.reduceAdd, if_pos, bv_some, Mn.gv]
              by_cases c3 : V 4 x n' < 0
              · rw [if_pos c3]
              · rw [if_neg c3, if_neg (by omega)]
            rw [e3]
            simp only [b1_some]
            rw [w32_id (by omega) (by omega)]
            exact ⟨_, rfl, rfl, skip (fun q => c2 q.2), hf⟩
      · obtain ⟨n', g1⟩ := t
        obtain ⟨e2, hO, hf⟩ := hS
        (try dsimp only at e2 hO hf ⊢)
        unfold m_Md_spreads_L41b
        rw [(isM_sm hf.sm M).n, e2, if_pos (by omega)]
        exact ⟨_, rfl, hO, hf⟩
    obtain ⟨h1, e1, e2⟩ := key
    rw [e1]
    exact ⟨h1, rfl, e2⟩
