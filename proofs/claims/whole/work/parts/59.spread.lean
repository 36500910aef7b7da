/-! PURE: the class's spread -/
/-- a loop whose states are known up to their heaps -/
theorem loop_ex {S X : Type} {f : S → Option (S ⊕ X)} (St : Int → S → Prop) (a n : Int) (Q : X → Prop) {s : S} (han : a ≤ n) (hN : n - a < 1000000) (hs : St a s) (hstep : ∀ c s, a ≤ c → c < n → St c s → ∃ t, f s = some (.inl t) ∧ St (c + 1) t) (hend : ∀ s, St n s → ∃ x, f s = some (.inr x) ∧ Q x) : ∃ x, loopO f FUEL s = some x ∧ Q x := by
  have key : ∀ (k : Nat) (c : Int) (s : S), a ≤ c → c + k = n → St c s → ∀ N, k < N → ∃ x, loopO f N s = some x ∧ Q x := by
    intro k
    induction k with
    | zero =>
      intro c s h0 h1 h2 N hN
      obtain ⟨M, rfl⟩ : ∃ M, N = M + 1 := ⟨N - 1, by omega⟩
      obtain ⟨x, e, q⟩ := hend s (by rw [show n = c by omega]; exact h2)
      refine ⟨x, ?_, q⟩
      unfold loopO
      rw [e]
    | succ k ih =>
      intro c s h0 h1 h2 N hN
      obtain ⟨M, rfl⟩ : ∃ M, N = M + 1 := ⟨N - 1, by omega⟩
      obtain ⟨t, e, q⟩ := hstep c s h0 (by omega) h2
      obtain ⟨x, e2, q2⟩ := ih (c + 1) t (by omega) (by omega) q M (by omega)
      refine ⟨x, ?_, q2⟩
      unfold loopO
      rw [e]
      exact e2
  exact key (n - a).toNat a s (by omega) (by omega) hs FUEL (by unfold FUEL; omega)
def P3 (o a b n : Int) (h : HP) : HP := upd2 (upd2 (upd2 h o 6 a) o 7 b) o 8 n
theorem P3_e (o a b n : Int) (h : HP) : P3 o a b n h o 6 = a ∧ P3 o a b n h o 7 = b ∧ P3 o a b n h o 8 = n := by
  unfold P3 upd2
  refine ⟨?_, ?_, ?_⟩
  · (try dsimp only); rw [if_neg (by omega), if_neg (by omega), if_pos (by omega)]
  · (try dsimp only); rw [if_neg (by omega), if_pos (by omega)]
  · (try dsimp only); rw [if_pos (by omega)]
theorem P3_n (o a b n : Int) (h : HP) {p j : Int} (q : p ≠ o ∨ (j ≠ 6 ∧ j ≠ 7 ∧ j ≠ 8)) : P3 o a b n h p j = h p j := by
  unfold P3 upd2
  (try dsimp only)
  rw [if_neg (by omega), if_neg (by omega), if_neg (by omega)]
theorem O_put (o a b n : Int) (h : HP) : m_Odds_put o a b n h = some (P3 o a b n h) := rfl
section Weigh
variable {o r : Int} {h : HP} {V : Vw}
theorem ct_0 {x y s i a : Int} (hs : ¬ gvn s) (ha : 0 ≤ a) : ct V x y s i a = sh V i x y a := by
  unfold ct
  rw [if_neg hs, if_neg (by omega)]
theorem ct_1 {x y s i a : Int} (hs : gvn s) : ct V x y s i a = if a = V 1 i 0 then 0 else sh V i x y a := by
  unfold ct
  rw [if_pos hs]
theorem cS_0 {x y s i : Int} (hs : ¬ gvn s) : cS V x y s i = Sm (sh V i x y) 4 := Sm_congr (fun a a0 a1 => ct_0 hs a0)
theorem cS_1 {x y s i : Int} (hs : gvn s) (hk : 0 ≤ V 1 i 0 ∧ V 1 i 0 < 4) : cS V x y s i = Sm (sh V i x y) 4 - sh V i x y (V 1 i 0) := by
  rw [Sm_out (sh V i x y) hk]
  have : cS V x y s i = Sm (fun a => if a = V 1 i 0 then 0 else sh V i x y a) 4 := Sm_congr (fun a a0 a1 => ct_1 hs)
  omega
theorem Ts_sh (V : Vw) (o i x y : Int) (h : HP) {a : Int} (ha : 0 ≤ a ∧ a < 4) : Ts V o i x y 4 h (o + 1) a = sh V i x y a := by
  unfold Ts
  rw [if_neg (by omega), if_pos (by omega)]
theorem Ts_sum (V : Vw) (o i x y : Int) (h : HP) : Ts V o i x y 4 h o 1 = Sm (sh V i x y) 4 := by
  unfold Ts
  rw [if_pos (by omega), if_pos rfl]
theorem Ts_sq (V : Vw) (o i x y : Int) (h : HP) : Ts V o i x y 4 h o 2 = Sm (sq V i x y) 4 := by
  unfold Ts
  rw [if_pos (by omega), if_neg (by omega)]
theorem sq_out (V : Vw) {i x y k : Int} (hk : 0 ≤ k ∧ k < 4) : Sm (fun a => if a = k then 0 else sh V i x y a * sh V i x y a) 4 = Sm (sq V i x y) 4 - sh V i x y k * sh V i x y k := by
  have := Sm_out (sq V i x y) hk
  unfold sq at this ⊢
  omega
/-- who was right stays right: one answer is left -/
theorem oneR {k i x y : Int} (q q' : Int) (hq : q = if V 4 x i = k then 1 else 0) (hq' : q' = if V 4 y i = k then 1 else 0) (c : V 4 x i = k ∨ V 4 y i = k) (A : Option HP) : (if q = 0 then (if q' = 0 then A else m_Odds_weigh_J181 o q q' h) else m_Odds_weigh_J181 o q q' h) = some (P3 o (if V 4 x i = V 4 y i then 1 else 0) 0 1 h) := by
  unfold m_Odds_weigh_J181 m_Odds_weigh_J196 m_Odds_weigh_J197
  simp only [O_put, b1_some]
  by_cases c1 : V 4 x i = k
  · rw [if_pos c1] at hq
    by_cases c2 : V 4 y i = k
    · rw [if_pos c2] at hq'
      rw [hq, hq', if_neg (by omega), if_neg (by omega), if_neg (by omega), if_pos (by omega)]
    · rw [if_neg c2] at hq'
      rw [hq, hq', if_neg (by omega), if_neg (by omega), if_pos rfl, if_neg (by omega)]
  · rw [if_neg c1] at hq
    have c2 := c.resolve_left c1
    rw [if_pos c2] at hq'
    rw [hq, hq', if_pos rfl, if_neg (by omega), if_pos rfl, if_neg (by omega)]
theorem X_weigh (X : isX r h V) (K : okVw V) {i x y s : Int} (hi : 0 ≤ i ∧ i < 8) (hx : 0 ≤ x ∧ x < 8) (hy : 0 ≤ y ∧ y < 8) (gx : 0 ≤ V 4 x i) (gy : 0 ≤ V 4 y i) (hs : 0 ≤ s ∧ s ≤ 3) (hsh : ∀ a, 0 ≤ a → a < 4 → h (o + 1) a = sh V i x y a) (hsum : h o 1 = Sm (sh V i x y) 4) (hsqs : h o 2 = Sm (sq V i x y) 4) : m_Odds_weigh o r i x y s h = some (P3 o (cA V x y s i) (cB V x y s i) (cN V x y s i) h) := by
  have hk := K.ky i hi.1 hi.2
  have gx4 := K.gv x i hx.1 hx.2 hi.1 hi.2
  have gy4 := K.gv y i hy.1 hy.2 hi.1 hi.2
  have hS := sh_sum K (x := x) (y := y) hi
  have hbk := sh_bd K (x := x) (y := y) hi (a := V 1 i 0) (by omega)
  have hsq := Int.mul_le_mul hbk.2 hbk.2 (by omega) (by omega)
  have hsq0 := Int.mul_nonneg (show 0 ≤ sh V i x y (V 1 i 0) by omega) (show 0 ≤ sh V i x y (V 1 i 0) by omega)
  have hSS := Int.mul_le_mul hS.2 hS.2 (by omega) (by omega)
  have hSS0 := Int.mul_nonneg (show 0 ≤ Sm (sh V i x y) 4 by omega) (show 0 ≤ Sm (sh V i x y) 4 by omega)
  have hQ := Sm_bd (f := sq V i x y) 0 81 (show (0 : Int) ≤ 4 by omega) (fun a b c => sq_bd K hi ⟨b, by omega⟩)
  have hQ2 : Sm (fun a => if a = V 1 i 0 then 0 else sh V i x y a * sh V i x y a) 4 = Sm (sq V i x y) 4 - sh V i x y (V 1 i 0) * sh V i x y (V 1 i 0) := sq_out V (by omega)
  have hsk := hsh (V 1 i 0) (by omega) (by omega)
  have hsx := hsh (V 4 x i) (by omega) (by omega)
  have eA : ¬ gvn s → cA V x y s i = cw V x y s i (V 1 i 0) := fun q => by
    unfold cA
    rw [if_neg (fun c => q c.1)]
  have eB : ¬ gvn s → cB V x y s i = Sm (fun a => if a = V 1 i 0 then 0 else cw V x y s i a) 4 := fun q => by
    unfold cB
    rw [if_neg (fun c => q c.1)]
  unfold m_Odds_weigh
  rw [if_pos hi, X.ky hi.1 hi.2]
  simp only [bv_some]
  rw [if_pos hx, if_pos hi, X.gv hx.1 hx.2 hi.1 hi.2]
  -- who is right, as a number
  have key : ∀ q q' : Int, (q = if V 4 x i = V 1 i 0 then 1 else 0) → (q' = if V 4 y i = V 1 i 0 then 1 else 0) → m_Odds_weigh_J51 o s (V 1 i 0) (V 4 x i) q q' h = some (P3 o (cA V x y s i) (cB V x y s i) (cN V x y s i) h) := fun q q' hq hq' => by
    unfold m_Odds_weigh_J51
    rw [if_pos (by omega), hsk, hsum, w32_id (by omega) (by omega)]
    simp only [bv_some]
    rw [if_pos (by omega), if_pos (by omega), w64_id (x := sh V i x y (V 1 i 0) * sh V i x y (V 1 i 0)) (by omega) (by omega)]
    have h4 : s = 0 ∨ s = 1 ∨ s = 2 ∨ s = 3 := by omega
    rcases h4 with rfl | rfl | rfl | rfl
    · -- FREE
      have ng : ¬ gvn 0 := by unfold gvn; omega
      have e1 : cA V x y 0 i = sh V i x y (V 1 i 0) * sh V i x y (V 1 i 0) := by
        rw [eA ng]
        unfold cw
        rw [if_pos (by omega), ct_0 ng (by omega)]
      have e2 : cB V x y 0 i = Sm (fun a => if a = V 1 i 0 then 0 else sh V i x y a * sh V i x y a) 4 := by
        rw [eB ng]
        refine Sm_congr (fun a a0 a1 => ?_)
        unfold cw
        rw [if_pos (show (0 : Int) < 2 by omega), ct_0 ng a0]
      have e3 : cN V x y 0 i = Sm (sh V i x y) 4 * Sm (sh V i x y) 4 := by
        unfold cN
        rw [if_neg (fun c => ng c.1), if_pos (by omega), cS_0 ng]
      rw [if_pos rfl, hsqs, w64_id (by omega) (by omega), w64_id (by omega) (by omega), e1, e2, e3, hQ2]
      rfl
    · -- GIVEN
      have ng : gvn 1 := Or.inl rfl
      rw [if_neg (by omega), if_neg (by omega)]
      by_cases c : V 4 x i = V 1 i 0 ∨ V 4 y i = V 1 i 0
      · have e1 : cA V x y 1 i = if V 4 x i = V 4 y i then 1 else 0 := by
          unfold cA
          rw [if_pos ⟨ng, c⟩]
        have e2 : cB V x y 1 i = 0 := by
          unfold cB
          rw [if_pos ⟨ng, c⟩]
        have e3 : cN V x y 1 i = 1 := by
          unfold cN
          rw [if_pos ⟨ng, c⟩]
        rw [e1, e2, e3]
        exact oneR q q' hq hq' c _
      · have e1 : cA V x y 1 i = 0 := by
          unfold cA
          rw [if_neg (fun q => c q.2)]
          unfold cw
          rw [if_pos (by omega), ct_1 ng, if_pos rfl]
          rfl
        have e2 : cB V x y 1 i = Sm (fun a => if a = V 1 i 0 then 0 else sh V i x y a * sh V i x y a) 4 := by
          unfold cB
          rw [if_neg (fun q => c q.2)]
          refine Sm_congr (fun a a0 a1 => ?_)
          unfold cw
          rw [if_pos (show (1 : Int) < 2 by omega), ct_1 ng]
          split
          · rfl
          · rfl
        have e3 : cN V x y 1 i = (Sm (sh V i x y) 4 - sh V i x y (V 1 i 0)) * (Sm (sh V i x y) 4 - sh V i x y (V 1 i 0)) := by
          unfold cN
          rw [if_neg (fun q => c q.2), if_pos (by omega), cS_1 ng (by omega)]
        have hd := Int.mul_le_mul (show Sm (sh V i x y) 4 - sh V i x y (V 1 i 0) ≤ 12 by omega) (show Sm (sh V i x y) 4 - sh V i x y (V 1 i 0) ≤ 12 by omega)
        have hD : 0 ≤ Sm (sh V i x y) 4 - sh V i x y (V 1 i 0) := by
          have := (cS_bd K (x := x) (y := y) (s := 1) hi).1
          rw [cS_1 ng (by omega)] at this
          omega
        have hd1 := hd hD (by omega)
        have hd0 := Int.mul_nonneg hD hD
        rw [if_neg (fun q => c (Or.inl q))] at hq
        rw [if_neg (fun q => c (Or.inr q))] at hq'
        rw [if_pos hq, if_pos hq', if_pos rfl, hsqs, w64_id (by omega) (by omega), w64_id (by omega) (by omega), e1, e2, e3, hQ2]
        rfl
    · -- SOURCE
      have ng : ¬ gvn 2 := by unfold gvn; omega
      have ew : ∀ a, 0 ≤ a → cw V x y 2 i a = if a = V 4 x i then sh V i x y a else 0 := fun a a0 => by
        unfold cw
        rw [if_neg (by omega), ct_0 ng a0]
      have e1 : cA V x y 2 i = if V 4 x i = V 1 i 0 then sh V i x y (V 1 i 0) else 0 := by
        rw [eA ng, ew _ (by omega)]
        by_cases c : V 4 x i = V 1 i 0
        · rw [if_pos c, if_pos c.symm]
        · rw [if_neg c, if_neg (fun q => c q.symm)]
      have e2 : cB V x y 2 i = if V 4 x i = V 1 i 0 then 0 else sh V i x y (V 4 x i) := by
        rw [eB ng]
        have h1 := Sm_out (fun a => if a = V 1 i 0 then 0 else cw V x y 2 i a) (k := V 4 x i) (by omega)
        have h2 : Sm (fun a => if a = V 4 x i then 0 else (fun a => if a = V 1 i 0 then 0 else cw V x y 2 i a) a) 4 = 0 := by
          rw [Sm_congr (g := fun _ => 0) (fun a a0 a1 => by
            (try dsimp only)
            rw [ew a a0]
            (repeat' split) <;> rfl)]
          rw [Sm4]
          rfl
        rw [h1, h2, ew _ gx, if_pos rfl, Int.add_zero]
      have e3 : cN V x y 2 i = Sm (sh V i x y) 4 := by
        unfold cN
        rw [if_neg (fun c => ng c.1), if_neg (by omega), cS_0 ng]
      rw [if_neg (by omega), if_pos rfl, e1, e2, e3]
      unfold m_Odds_weigh_J143 m_Odds_weigh_J160
      by_cases c : V 4 x i = V 1 i 0
      · rw [if_pos c] at hq
        rw [if_neg (by omega), if_pos (by omega), if_neg (by omega), if_pos c, if_pos c, hsum]
        rfl
      · rw [if_neg c] at hq
        rw [if_pos hq, if_pos hq, if_pos (by omega), if_neg c, if_neg c, hsx, hsum]
        rfl
    · -- BOUND
      have ng : gvn 3 := Or.inr rfl
      rw [if_neg (by omega), if_neg (by omega)]
      by_cases c : V 4 x i = V 1 i 0 ∨ V 4 y i = V 1 i 0
      · have e1 : cA V x y 3 i = if V 4 x i = V 4 y i then 1 else 0 := by
          unfold cA
          rw [if_pos ⟨ng, c⟩]
        have e2 : cB V x y 3 i = 0 := by
          unfold cB
          rw [if_pos ⟨ng, c⟩]
        have e3 : cN V x y 3 i = 1 := by
          unfold cN
          rw [if_pos ⟨ng, c⟩]
        rw [e1, e2, e3]
        exact oneR q q' hq hq' c _
      · have ew : ∀ a, 0 ≤ a → cw V x y 3 i a = if a = V 4 x i then (if a = V 1 i 0 then 0 else sh V i x y a) else 0 := fun a a0 => by
          unfold cw
          rw [if_neg (by omega), ct_1 ng]
        have e1 : cA V x y 3 i = 0 := by
          unfold cA
          rw [if_neg (fun q => c q.2), ew _ (by omega), if_neg (by omega)]
        have e2 : cB V x y 3 i = sh V i x y (V 4 x i) := by
          unfold cB
          rw [if_neg (fun q => c q.2)]
          have h1 := Sm_out (fun a => if a = V 1 i 0 then 0 else cw V x y 3 i a) (k := V 4 x i) (by omega)
          have h2 : Sm (fun a => if a = V 4 x i then 0 else (fun a => if a = V 1 i 0 then 0 else cw V x y 3 i a) a) 4 = 0 := by
            rw [Sm_congr (g := fun _ => 0) (fun a a0 a1 => by
              (try dsimp only)
              rw [ew a a0]
              (repeat' split) <;> first | rfl | (exfalso; omega))]
            rw [Sm4]
            rfl
          rw [h1, h2, ew _ gx, if_pos rfl, Int.add_zero, if_neg (by omega), if_neg (by omega)]
        have e3 : cN V x y 3 i = Sm (sh V i x y) 4 - sh V i x y (V 1 i 0) := by
          unfold cN
          rw [if_neg (fun q => c q.2), if_neg (by omega), cS_1 ng (by omega)]
        rw [if_neg (fun q => c (Or.inl q))] at hq
        rw [if_neg (fun q => c (Or.inr q))] at hq'
        rw [if_pos hq, if_pos hq', if_neg (by omega), if_pos (by omega), hsx, e1, e2, e3]
        rfl
  have key2 : ∀ q : Int, (q = if V 4 x i = V 1 i 0 then 1 else 0) → m_Odds_weigh_J30 o r i y s (V 1 i 0) (V 4 x i) q h = some (P3 o (cA V x y s i) (cB V x y s i) (cN V x y s i) h) := fun q hq => by
    unfold m_Odds_weigh_J30
    rw [if_pos hy, if_pos hi, X.gv hy.1 hy.2 hi.1 hi.2]
    by_cases c : V 4 y i = V 1 i 0
    · rw [if_pos c]
      exact key q 1 hq (by rw [if_pos c])
    · rw [if_neg c]
      exact key q 0 hq (by rw [if_neg c])
  by_cases c : V 4 x i = V 1 i 0
  · rw [if_pos c]
    exact key2 1 (by rw [if_pos c])
  · rw [if_neg c]
    exact key2 0 (by rw [if_neg c])
end Weigh
/-- ways after an item's, from the greatest down to k -/
def Aw (o k top : Int) (f' : Int → Int) (h : HP) : HP := fun p j => if p = o + 2 ∧ k < j ∧ j ≤ top then f' j else h p j
theorem X_addItem {o r w a b n B top : Int} {f : Int → Int} {h : HP} (hr : 0 ≤ r ∧ r ≤ 4) (hw : 0 ≤ w ∧ w ≤ 4) (ht : 0 ≤ top ∧ top ≤ 32) (ha : 0 ≤ a) (hb : 0 ≤ b) (hn : a + b ≤ n ∧ n ≤ 144) (hf : ∀ k, 0 ≤ f k ∧ f k ≤ B) (hf0 : ∀ k, k < 0 → f k = 0) (hB : 1 ≤ B ∧ B * n ≤ 9223372036854775807) (h5 : h o 6 = a) (h6 : h o 7 = b) (h7 : h o 8 = n) (h3 : h o 4 = B) (hh : ∀ k, 0 ≤ k → k < 33 → h (o + 2) k = f k) : m_Odds_addItem o top r w h = some (upd2 (Aw o (-1) top (wst r w a b n f) h) o 4 (B * n)) := by
  unfold m_Odds_addItem m_Odds_addItem_L19
  rw [h5, h6, h7, w64_id (x := n - a) (by omega) (by omega), w64_id (by omega) (by omega)]
  simp only [bv_some]
  have hBn := Int.mul_nonneg (show 0 ≤ B by omega) (show 0 ≤ n by omega)
  refine loop_seq (fun c => (top - c, Aw o (top - c) top (wst r w a b n f) h)) 0 (top + 1) (by omega) (by omega) ?_ (fun c c0 c1 => ?_) ?_
  · rw [Int.sub_zero]
    refine pr_eq ?_
    funext p j
    unfold Aw
    rw [if_neg (by omega)]
  · have e1 : ∀ j, 0 ≤ j → j ≤ top - c → Aw o (top - c) top (wst r w a b n f) h (o + 2) j = f j := fun j j0 j1 => by
      unfold Aw
      rw [if_neg (by omega), hh j j0 (by omega)]
    have e5 : Aw o (top - c) top (wst r w a b n f) h o 6 = a := by
      unfold Aw
      rw [if_neg (by omega), h5]
    have e6 : Aw o (top - c) top (wst r w a b n f) h o 7 = b := by
      unfold Aw
      rw [if_neg (by omega), h6]
    have hbd := wst_bd (r := r) (w := w) ha hb hn.1 hf (top - c)
    obtain ⟨k, hk⟩ : ∃ k, k = top - c := ⟨_, rfl⟩
    rw [← hk] at e1 e5 e6 hbd ⊢
    have fin : ∀ v, v = wst r w a b n f k → m_Odds_addItem_J86 o r w (n - a - b) k v (Aw o k top (wst r w a b n f) h) = some (.inl (top - (c + 1), Aw o (top - (c + 1)) top (wst r w a b n f) h)) := fun v hv => by
      unfold m_Odds_addItem_J86
      rw [if_pos (by omega), w32_id (by omega) (by omega), show k + -1 = top - (c + 1) by omega]
      simp only [bv_some]
      refine in_eq ?_
      funext p j
      unfold upd2 Aw
      ((try dsimp only); repeat' split) <;> first | rfl | (exfalso; omega) | (rw [hv]; congr 1; omega)
    have fin2 : ∀ v, v = f k * (n - a - b) + f (k - r) * a → m_Odds_addItem_J61 o r w (n - a - b) k v (Aw o k top (wst r w a b n f) h) = some (.inl (top - (c + 1), Aw o (top - (c + 1)) top (wst r w a b n f) h)) := fun v hv => by
      unfold m_Odds_addItem_J61
      by_cases q : k < w
      · rw [if_pos q]
        refine fin v ?_
        unfold wst
        rw [hf0 (k - w) (by omega), hv, Int.zero_mul, Int.add_zero]
      · rw [if_neg q, w32_id (by omega) (by omega), if_pos (by omega), e1 _ (by omega) (by omega), e6, w64_id (x := f (k - w) * b) (by omega) (by omega), w64_id (by omega) (by omega)]
        simp only [bv_some]
        refine fin _ ?_
        unfold wst
        rw [hv]
    (try dsimp only)
    unfold m_Odds_addItem_L19b
    rw [if_neg (by omega), if_pos (by omega), e1 k (by omega) (by omega), w64_id (x := f k * (n - a - b)) (by omega) (by omega)]
    simp only [bv_some]
    by_cases q : k < r
    · rw [if_pos q]
      refine fin2 _ ?_
      rw [hf0 (k - r) (by omega), Int.zero_mul, Int.add_zero]
    · rw [if_neg q, w32_id (by omega) (by omega), if_pos (by omega), e1 _ (by omega) (by omega), e5, w64_id (x := f (k - r) * a) (by omega) (by omega), w64_id (by omega) (by omega)]
      exact fin2 _ rfl
  · (try dsimp only)
    unfold m_Odds_addItem_L19b m_Odds_addItem_J101
    have e3 : Aw o (top - (top + 1)) top (wst r w a b n f) h o 4 = B := by
      unfold Aw
      rw [if_neg (by omega), h3]
    have e7 : Aw o (top - (top + 1)) top (wst r w a b n f) h o 8 = n := by
      unfold Aw
      rw [if_neg (by omega), h7]
    rw [if_pos (by omega), e3, e7, w64_id (by omega) (by omega), show top - (top + 1) = -1 by omega]
    rfl
/-- the likeness, but for one item -/
def lkb (V : Vw) (x y but i : Int) : Int := if i = but then 0 else lkA V x y i
/-- what the class's odds hold when items below n are spread -/
def Os (V : Vw) (o x y s but n : Int) (h : HP) : Prop := (∀ k, 0 ≤ k → k < 33 → h (o + 2) k = Wy V x y s but n k) ∧ h o 4 = By V x y s but n ∧ h o 5 = Sm (lkb V x y but) n
def frO (o : Int) (h h1 : HP) : Prop := ∀ p j, ¬ (o ≤ p ∧ p ≤ o + 2) → h1 p j = h p j
theorem lkb_0 {V : Vw} {x y but i : Int} (h : ¬ inc V x y but i) : lkb V x y but i = 0 := by
  unfold lkb lkA
  unfold inc at h
  (repeat' split) <;> first | rfl | (exfalso; omega)
theorem lkb_1 {V : Vw} {x y but i : Int} (h : i ≠ but) : lkb V x y but i = lkA V x y i := by
  unfold lkb
  rw [if_neg h]
theorem X_bothGave {o : Int} {h : HP} {V : Vw} (X : isX o h V) {i x y : Int} (hi : 0 ≤ i ∧ i < 8) (hx : 0 ≤ x ∧ x < 8) (hy : 0 ≤ y ∧ y < 8) : m_Exam_bothGave o i x y h = some (if 0 ≤ V 4 x i ∧ 0 ≤ V 4 y i then 1 else 0) := by
  unfold m_Exam_bothGave
  rw [if_pos hx, if_pos hi, X.gv hx.1 hx.2 hi.1 hi.2, if_pos hy, if_pos hi, X.gv hy.1 hy.2 hi.1 hi.2]
  (repeat' split) <;> first | rfl | (exfalso; omega)
theorem X_spread {o r : Int} {h : HP} {V : Vw} (X : isX r h V) (K : okVw V) (hr : r + 29 < o) {x y s but : Int} (hx : 0 ≤ x ∧ x < 8) (hy : 0 ≤ y ∧ y < 8) (hs : 0 ≤ s ∧ s ≤ 3) : ∃ h1, m_Odds_spread o r x y s but h = some h1 ∧ Os V o x y s but (V 0 0 0) h1 ∧ frO o h h1 := by
  have hn := K.n
  have hu := K.us
  unfold m_Odds_spread m_Odds_spread_L3
  refine loop_ex (fun k t => t.1 = k ∧ (∀ j, 1 ≤ j → j < k → t.2 (o + 2) j = 0) ∧ frO o h t.2) 1 33 (fun h1 => Os V o x y s but (V 0 0 0) h1 ∧ frO o h h1) (by omega) (by omega) ⟨rfl, fun j a b => by omega, fun p j a => rfl⟩ (fun k t k0 k1 hS => ?_) (fun t hS => ?_)
  · obtain ⟨rfl, h1, h2⟩ := hS
    obtain ⟨k, g⟩ := t
    (try dsimp only at k0 k1 h1 h2 ⊢)
    unfold m_Odds_spread_L3b
    rw [if_neg (by omega), if_pos (by omega), w32_id (by omega) (by omega)]
    refine ⟨_, rfl, rfl, fun j a b => ?_, fun p j a => ?_⟩
    · unfold upd2
      (try dsimp only)
      split
      · rfl
      · exact h1 j a (by omega)
    · unfold upd2
      (try dsimp only)
      rw [if_neg (by omega)]
      exact h2 p j a
  · obtain ⟨e, h1, h2⟩ := hS
    obtain ⟨k, g⟩ := t
    (try dsimp only at e h1 h2 ⊢)
    subst e
    unfold m_Odds_spread_L3b
    rw [if_pos (by omega)]
    have key : ∃ h1, m_Odds_spread_J24 o r x y s but g = some h1 ∧ Os V o x y s but (V 0 0 0) h1 ∧ frO o h h1 := by
      have Xg : ∀ g', frO o h g' → isX r g' V := fun g' f => isX_cg (fun p j a b => f p j (by omega)) X
      have hfr : frO o h (upd2 (upd2 (upd2 g (o + 2) 0 1) o 4 1) o 5 0) := fun p j a => by
        unfold upd2
        (try dsimp only)
        rw [if_neg (by omega), if_neg (by omega), if_neg (by omega)]
        exact h2 p j a
      have X1 := Xg _ hfr
      unfold m_Odds_spread_J24
      simp only [bv_some]
      rw [X1.us (by omega) (by omega), X1.us (by omega) (by omega)]
      unfold m_Odds_spread_L63
      refine loop_ex (fun n t => t.1 = Ty V x y but n ∧ t.2.1 = n ∧ Os V o x y s but n t.2.2 ∧ frO o h t.2.2) 0 (V 0 0 0) (fun h1 => Os V o x y s but (V 0 0 0) h1 ∧ frO o h h1) (by omega) (by omega) ⟨rfl, rfl, ⟨fun k k0 k1 => ?_, ?_, ?_⟩, hfr⟩ (fun n t n0 n1 hS => ?_) (fun t hS => ?_)
      · show _ = if k = 0 then 1 else 0
        unfold upd2
        (try dsimp only)
        rw [if_neg (by omega), if_neg (by omega)]
        by_cases c : k = 0
        · rw [if_pos ⟨rfl, c⟩, if_pos c]
        · rw [if_neg (fun q => c q.2), if_neg c]
          exact h1 k (by omega) (by omega)
      · show _ = (1 : Int)
        unfold upd2
        (try dsimp only)
        rw [if_neg (by omega), if_pos ⟨rfl, rfl⟩]
      · show _ = (0 : Int)
        unfold upd2
        (try dsimp only)
        rw [if_pos ⟨rfl, rfl⟩]
      · obtain ⟨t1, n', g1⟩ := t
        obtain ⟨e1, e2, hO, hf⟩ := hS
        (try dsimp only at e1 e2 hO hf ⊢)
        subst e1 e2
        have Xn := Xg _ hf
        have hb8 : 0 ≤ n' ∧ n' ≤ 8 := by omega
        have hTy := Ty_bd (x := x) (y := y) (but := but) K hb8
        unfold m_Odds_spread_L63b
        rw [Xn.n, if_neg (by omega)]
        by_cases c : n' = but
        · rw [if_pos c, w32_id (by omega) (by omega)]
          have ni : ¬ inc V x y but n' := fun q => q.1 c
          refine ⟨_, rfl, ?_, rfl, ?_, hf⟩
          · rw [Ty_s n0, if_neg ni]
          · unfold Os
            rw [Wy_s n0, By_s n0, Sm_s _ n0, if_neg ni, if_neg ni, lkb_0 ni, Int.add_zero]
            exact hO
        · rw [if_neg c, X_bothGave Xn (by omega) hx hy]
          simp only [b1_some]
          by_cases c2 : 0 ≤ V 4 x n' ∧ 0 ≤ V 4 y n'
          · have yi : inc V x y but n' := ⟨c, c2⟩
            have hTy1 := Ty_bd (x := x) (y := y) (but := but) (n := n' + 1) K (by omega)
            have eTy := Ty_s (V := V) (x := x) (y := y) (but := but) n0
            rw [if_pos yi] at eTy
            have hAB := cAB K (x := x) (y := y) (s := s) (i := n') (by omega)
            have hN := cN_bd K (x := x) (y := y) (s := s) (i := n') (by omega)
            have hBy := By_bd (x := x) (y := y) (s := s) (but := but) K hb8
            have hBy1 := By_bd (x := x) (y := y) (s := s) (but := but) (n := n' + 1) K (by omega)
            have eBy := By_s (V := V) (x := x) (y := y) (s := s) (but := but) n0
            rw [if_pos yi] at eBy
            have eWy := Wy_s (V := V) (x := x) (y := y) (s := s) (but := but) n0
            rw [if_pos yi] at eWy
            have emax : (if V 7 4 0 < V 7 5 0 then V 7 5 0 else V 7 4 0) = max (V 7 4 0) (V 7 5 0) := by
              split <;> omega
            have XT : isX r (Ts V o n' x y 4 g1) V := isX_cg (fun p j a b => by
              unfold Ts
              rw [if_neg (by omega), if_neg (by omega)]) Xn
            rw [if_pos c2, if_neg (by omega), X_takeShares Xn K hr (by omega)]
            simp only [b1_some]
            rw [X_weigh XT K (by omega) hx hy c2.1 c2.2 hs (fun a a0 a1 => Ts_sh V o n' x y g1 ⟨a0, a1⟩) (Ts_sum V o n' x y g1) (Ts_sq V o n' x y g1), emax]
            simp only [b1_some, bv_some]
            rw [w32_id (x := Ty V x y but n' + max (V 7 4 0) (V 7 5 0)) (by omega) (by omega), if_neg (by omega), ← eTy]
            have pe := P3_e o (cA V x y s n') (cB V x y s n') (cN V x y s n') (Ts V o n' x y 4 g1)
            have pn : ∀ p j, (p ≠ o ∨ (j ≠ 6 ∧ j ≠ 7 ∧ j ≠ 8 ∧ j ≠ 1 ∧ j ≠ 2)) → p ≠ o + 1 → P3 o (cA V x y s n') (cB V x y s n') (cN V x y s n') (Ts V o n' x y 4 g1) p j = g1 p j := fun p j a b => by
              rw [P3_n _ _ _ _ _ (by omega)]
              unfold Ts
              rw [if_neg (by omega), if_neg (by omega)]
            generalize P3 o (cA V x y s n') (cB V x y s n') (cN V x y s n') (Ts V o n' x y 4 g1) = g2 at pe pn
            rw [X_addItem (B := By V x y s but n') (f := Wy V x y s but n') (by omega) (by omega) (show 0 ≤ Ty V x y but (n' + 1) ∧ Ty V x y but (n' + 1) ≤ 32 by omega) hAB.1 hAB.2.1 ⟨hAB.2.2, hN.2⟩ (fun k => Wy_bd K k hb8) (fun k hk => Wy_neg K hb8 hk) ⟨hBy.1, by rw [← eBy]; omega⟩ pe.1 pe.2.1 pe.2.2 (by rw [pn _ _ (by omega) (by omega)]; exact hO.2.1) (fun k k0 k1 => by rw [pn _ _ (by omega) (by omega)]; exact hO.1 k k0 k1)]
            rw [← eBy, ← eWy]
            simp only [b1_some, bv_some]
            have fr2 : frO o h (upd2 (Aw o (-1) (Ty V x y but (n' + 1)) (Wy V x y s but (n' + 1)) g2) o 4 (By V x y s but (n' + 1))) := fun p j a => by
              unfold upd2 Aw
              (try dsimp only)
              rw [if_neg (by omega), if_neg (by omega), pn p j (by omega) (by omega)]
              exact hf p j a
            have X2 := Xg _ fr2
            rw [X_likenessAt X2 (by omega) hx hy]
            have e4 : upd2 (Aw o (-1) (Ty V x y but (n' + 1)) (Wy V x y s but (n' + 1)) g2) o 4 (By V x y s but (n' + 1)) o 5 = Sm (lkb V x y but) n' := by
              unfold upd2 Aw
              (try dsimp only)
              rw [if_neg (by omega), if_neg (by omega), pn _ _ (by omega) (by omega)]
              exact hO.2.2
            have hlk := lkA_bd K x y n'
            have hls := Sm_bd (f := lkb V x y but) 0 4 n0 (fun j j0 j1 => by
              have := lkA_bd K x y j
              unfold lkb
              split <;> omega)
            simp only [b1_some, bv_some]
            rw [e4, w32_id (x := Sm (lkb V x y but) n' + lkA V x y n') (by omega) (by omega), w32_id (by omega) (by omega)]
            refine ⟨_, rfl, rfl, rfl, ⟨fun k k0 k1 => ?_, ?_, ?_⟩, fun p j a => ?_⟩
            · unfold upd2 Aw
              (try dsimp only)
              rw [if_neg (by omega), if_neg (by omega)]
              by_cases ck : k ≤ Ty V x y but (n' + 1)
              · rw [if_pos (by omega)]
              · rw [if_neg (by omega), Wy_top K (by omega) (by omega), pn _ _ (by omega) (by omega), hO.1 k k0 k1, Wy_top K hb8 (by omega)]
            · unfold upd2
              (try dsimp only)
              rw [if_neg (by omega), if_pos (by omega)]
            · (try dsimp only)
              rw [upd2_eq, Sm_s _ n0, lkb_1 c]
            · unfold upd2
              (try dsimp only)
              rw [if_neg (by omega)]
              exact fr2 p j a
          · have ni : ¬ inc V x y but n' := fun q => c2 q.2
            rw [if_neg c2, if_pos rfl, w32_id (by omega) (by omega)]
            refine ⟨_, rfl, ?_, rfl, ?_, hf⟩
            · rw [Ty_s n0, if_neg ni]
            · unfold Os
              rw [Wy_s n0, By_s n0, Sm_s _ n0, if_neg ni, if_neg ni, lkb_0 ni, Int.add_zero]
              exact hO
      · obtain ⟨t1, n', g1⟩ := t
        obtain ⟨e1, e2, hO, hf⟩ := hS
        (try dsimp only at e1 e2 hO hf ⊢)
        unfold m_Odds_spread_L63b
        rw [(Xg _ hf).n, e2, if_pos (by omega)]
        exact ⟨_, rfl, hO, hf⟩
    obtain ⟨h1, e1, e2⟩ := key
    rw [e1]
    exact ⟨h1, rfl, e2⟩
