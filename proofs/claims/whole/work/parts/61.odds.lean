/-! PURE: odds, as both sides have them -/
def Lk (V : Vw) (x y but : Int) : Int := Sm (lkb V x y but) (V 0 0 0)
def ov (V : Vw) (x y s but : Int) : Int := Sm (Wy V x y s but (V 0 0 0)) 33 - Sm (Wy V x y s but (V 0 0 0)) (Lk V x y but)
def bl (V : Vw) (x y s but : Int) : Int := By V x y s but (V 0 0 0)
section Odds
variable {V : Vw} {x y s but : Int}
theorem Lk_bd (K : okVw V) : 0 ≤ Lk V x y but ∧ Lk V x y but ≤ 32 := by
  have hn := K.n
  have h := Sm_bd (f := lkb V x y but) 0 4 (show 0 ≤ V 0 0 0 by omega) (fun i _ _ => by
    have := lkA_bd K x y i
    unfold lkb
    split <;> omega)
  unfold Lk
  omega
theorem bl_bd (K : okVw V) : 1 ≤ bl V x y s but ∧ bl V x y s but ≤ 184884258895036416 := by
  have hn := K.n
  exact By_bd K (by omega)
theorem SmW_bd (K : okVw V) {k : Int} (hk : 0 ≤ k ∧ k ≤ 33) : 0 ≤ Sm (Wy V x y s but (V 0 0 0)) k ∧ Sm (Wy V x y s but (V 0 0 0)) k ≤ 184884258895036416 * k := by
  have hn := K.n
  have hb := By_bd (x := x) (y := y) (s := s) (but := but) (n := V 0 0 0) K (by omega)
  have h := Sm_bd (f := Wy V x y s but (V 0 0 0)) 0 184884258895036416 hk.1 (fun i _ _ => by
    have := Wy_bd (x := x) (y := y) (s := s) (but := but) (n := V 0 0 0) K i (by omega)
    omega)
  omega
/-- ways from likeness on, as far as k -/
theorem tail_bd (K : okVw V) {k : Int} (hk : Lk V x y but ≤ k ∧ k ≤ 33) : 0 ≤ Sm (Wy V x y s but (V 0 0 0)) k - Sm (Wy V x y s but (V 0 0 0)) (Lk V x y but) ∧ Sm (Wy V x y s but (V 0 0 0)) k - Sm (Wy V x y s but (V 0 0 0)) (Lk V x y but) ≤ 184884258895036416 * 33 := by
  have hn := K.n
  have hL := Lk_bd (x := x) (y := y) (but := but) K
  have h1 := SmW_bd (x := x) (y := y) (s := s) (but := but) K (k := k) (by omega)
  have h2 := SmW_bd (x := x) (y := y) (s := s) (but := but) K (k := Lk V x y but) (by omega)
  have h3 := Sm_mono (f := Wy V x y s but (V 0 0 0)) hL.1 hk.1 (fun i _ _ => (Wy_bd K i (by omega)).1)
  omega
theorem ov_bd (K : okVw V) : 0 ≤ ov V x y s but ∧ ov V x y s but < 9223372036854775808 := by
  have hL := Lk_bd (x := x) (y := y) (but := but) K
  have h := tail_bd (x := x) (y := y) (s := s) (but := but) K (k := 33) (by omega)
  unfold ov
  omega
theorem X_tail {o to : Int} {h : HP} (K : okVw V) (hO : Os V o x y s but (V 0 0 0) h) : m_Odds_asGreat o to h = some (upd2 (upd2 h to 0 (rdA (ov V x y s but) (bl V x y s but))) to 1 (rdB (ov V x y s but) (bl V x y s but))) := by
  have hn := K.n
  have hL := Lk_bd (x := x) (y := y) (but := but) K
  have ho := ov_bd (x := x) (y := y) (s := s) (but := but) K
  have hb := bl_bd (x := x) (y := y) (s := s) (but := but) K
  unfold m_Odds_asGreat m_Odds_asGreat_L8
  have e4 : h o 5 = Lk V x y but := hO.2.2
  rw [e4]
  simp only [bv_some]
  refine loop_seq (fun k => (Sm (Wy V x y s but (V 0 0 0)) k - Sm (Wy V x y s but (V 0 0 0)) (Lk V x y but), k)) (Lk V x y but) 33 (by omega) (by omega) (by rw [Int.sub_self]) (fun k k0 k1 => ?_) ?_
  · have h1 := tail_bd (x := x) (y := y) (s := s) (but := but) K (k := k) (by omega)
    have h2 := tail_bd (x := x) (y := y) (s := s) (but := but) K (k := k + 1) (by omega)
    have es : Sm (Wy V x y s but (V 0 0 0)) (k + 1) = Sm (Wy V x y s but (V 0 0 0)) k + Wy V x y s but (V 0 0 0) k := Sm_s _ (by omega)
    (try dsimp only)
    unfold m_Odds_asGreat_L8b
    rw [if_neg (by omega), if_pos (by omega), hO.1 k (by omega) k1, w64_id (by omega) (by omega), w32_id (by omega) (by omega), es]
    simp only [bv_some]
    rw [show Sm (Wy V x y s but (V 0 0 0)) k + Wy V x y s but (V 0 0 0) k - Sm (Wy V x y s but (V 0 0 0)) (Lk V x y but) = Sm (Wy V x y s but (V 0 0 0)) k - Sm (Wy V x y s but (V 0 0 0)) (Lk V x y but) + Wy V x y s but (V 0 0 0) k by omega]
  · (try dsimp only)
    unfold m_Odds_asGreat_L8b m_Odds_asGreat_J31
    have e3 : h o 4 = bl V x y s but := hO.2.1
    rw [if_pos (by omega), e3, X_put to h (a := Sm (Wy V x y s but (V 0 0 0)) 33 - Sm (Wy V x y s but (V 0 0 0)) (Lk V x y but)) ho ⟨by omega, by omega⟩]
    rfl
/-- a heap with a fraction in lowest terms at a place, else as it was but for odds' own places -/
def Rt (o to a b : Int) (h h1 : HP) : Prop := h1 to 0 = rdA a b ∧ h1 to 1 = rdB a b ∧ ∀ p j, ¬ (o ≤ p ∧ p ≤ o + 2) → p ≠ to → h1 p j = h p j
theorem Rt_of {o to a b : Int} {h g : HP} (f : frO o h g) : Rt o to a b h (upd2 (upd2 g to 0 (rdA a b)) to 1 (rdB a b)) := by
  refine ⟨?_, upd2_eq _ _ _ _, fun p j n1 n2 => ?_⟩
  · rw [upd2_nj _ (by omega), upd2_eq]
  · rw [upd2_np _ n2, upd2_np _ n2]
    exact f p j n1
section X1
variable {o r to : Int} {h : HP}
theorem X_asGreatB (X : isX r h V) (K : okVw V) (hr : r + 29 < o) (hx : 0 ≤ x ∧ x < 8) (hy : 0 ≤ y ∧ y < 8) (hs : 0 ≤ s ∧ s ≤ 3) : ∃ g h1, m_Odds_spread o r x y s but h = some g ∧ m_Odds_asGreat o to g = some h1 ∧ Rt o to (ov V x y s but) (bl V x y s but) h h1 := by
  obtain ⟨g, e, hO, hf⟩ := X_spread (s := s) (but := but) X K hr hx hy hs
  exact ⟨g, _, e, X_tail K hO, Rt_of hf⟩
theorem X_asGreat (X : isX r h V) (K : okVw V) (hr : r + 29 < o) (hx : 0 ≤ x ∧ x < 8) (hy : 0 ≤ y ∧ y < 8) (hs : 0 ≤ s ∧ s ≤ 3) : ∃ g h1, m_Odds_spread o r x y s (-1) h = some g ∧ m_Odds_asGreat o to g = some h1 ∧ Rt o to (ov V x y s (-1)) (bl V x y s (-1)) h h1 :=
  X_asGreatB X K hr hx hy hs
theorem X_asGreatW (X : isX r h V) (K : okVw V) (hr : r + 29 < o) (hx : 0 ≤ x ∧ x < 8) (hy : 0 ≤ y ∧ y < 8) : ∃ g h1, m_Odds_spread o r x y 0 but h = some g ∧ m_Odds_asGreat o to g = some h1 ∧ Rt o to (ov V x y 0 but) (bl V x y 0 but) h h1 :=
  X_asGreatB X K hr hx hy (by omega)
theorem X_exactly {k : Int} (X : isX r h V) (K : okVw V) (hr : r + 29 < o) (hx : 0 ≤ x ∧ x < 8) (hy : 0 ≤ y ∧ y < 8) (hs : 0 ≤ s ∧ s ≤ 3) (hk : 0 ≤ k ∧ k < 33) : ∃ g h1, m_Odds_spread o r x y s (-1) h = some g ∧ m_Odds_exactly o k to g = some h1 ∧ Rt o to (Wy V x y s (-1) (V 0 0 0) k) (bl V x y s (-1)) h h1 := by
  have hn := K.n
  have hw := Wy_bd (x := x) (y := y) (s := s) (but := -1) (n := V 0 0 0) K k (by omega)
  have hb := bl_bd (x := x) (y := y) (s := s) (but := -1) K
  obtain ⟨g, e, hO, hf⟩ := X_spread (s := s) (but := -1) X K hr hx hy hs
  have e3 : g o 4 = bl V x y s (-1) := hO.2.1
  have hw2 : Wy V x y s (-1) (V 0 0 0) k ≤ bl V x y s (-1) := hw.2
  refine ⟨g, upd2 (upd2 g to 0 (rdA (Wy V x y s (-1) (V 0 0 0) k) (bl V x y s (-1)))) to 1 (rdB (Wy V x y s (-1) (V 0 0 0) k) (bl V x y s (-1))), e, ?_, Rt_of hf⟩
  unfold m_Odds_exactly
  rw [if_pos hk, hO.1 k hk.1 hk.2, e3, X_put to g ⟨hw.1, by omega⟩ ⟨by omega, by omega⟩]
  rfl
end X1
theorem M_asMuch {h : HP} (M : isM h V) (K : okVw V) (hx : 0 ≤ x ∧ x < V 0 1 0) (hy : 0 ≤ y ∧ y < V 0 1 0) (hs : 0 ≤ s ∧ s ≤ 3) : ∃ h1, m_Md_asMuch 126 x y s but h = some (ov V x y s but, h1) ∧ h1 126 28 = bl V x y s but ∧ frM h h1 := by
  have hn := K.n
  have hL := Lk_bd (x := x) (y := y) (but := but) K
  obtain ⟨g, e, hO, hf⟩ := M_spreads (s := s) (but := but) M K hx hy hs
  have Mg : isM g V := isM_sm hf.sm M
  have el : m_Md_likeness 126 x y but g = some (Lk V x y but) := M_likeness Mg K hx hy
  unfold m_Md_asMuch m_Md_asMuch_L22
  rw [e]
  simp only [b1_some]
  rw [el]
  simp only [b1_some]
  refine ⟨g, ?_, hO.2, hf⟩
  refine loop_seq (fun k => (Sm (Wy V x y s but (V 0 0 0)) k - Sm (Wy V x y s but (V 0 0 0)) (Lk V x y but), k)) (Lk V x y but) 33 (by omega) (by omega) (by rw [Int.sub_self]) (fun k k0 k1 => ?_) ?_
  · have h1 := tail_bd (x := x) (y := y) (s := s) (but := but) K (k := k) (by omega)
    have h2 := tail_bd (x := x) (y := y) (s := s) (but := but) K (k := k + 1) (by omega)
    have es : Sm (Wy V x y s but (V 0 0 0)) (k + 1) = Sm (Wy V x y s but (V 0 0 0)) k + Wy V x y s but (V 0 0 0) k := Sm_s _ (by omega)
    (try dsimp only)
    unfold m_Md_asMuch_L22b
    simp only [Int.reduceAdd]
    rw [if_neg (by omega), if_pos (by omega), hO.1 k (by omega) k1, w64_id (by omega) (by omega), w32_id (by omega) (by omega), es]
    simp only [bv_some]
    rw [show Sm (Wy V x y s but (V 0 0 0)) k + Wy V x y s but (V 0 0 0) k - Sm (Wy V x y s but (V 0 0 0)) (Lk V x y but) = Sm (Wy V x y s but (V 0 0 0)) k - Sm (Wy V x y s but (V 0 0 0)) (Lk V x y but) + Wy V x y s but (V 0 0 0) k by omega]
  · (try dsimp only)
    unfold m_Md_asMuch_L22b
    rw [if_pos (by omega)]
    rfl
end Odds
theorem Rt_frC {to a b : Int} {h h1 : HP} (ht : 94 ≤ to ∧ to ≤ 113) (R : Rt 94 to a b h h1) : frC h h1 := fun p j n => by
  unfold scr at n
  exact R.2.2 p j (by omega) (by omega)
theorem frM_frC {h h1 : HP} (f : frM h h1) : frC h h1 := fun p j n => by
  unfold scr at n
  exact f p j (by omega)
theorem if10 {X : Type} (c : Prop) [Decidable c] (A B : X) : (if (if c then (1 : Int) else 0) = 0 then A else B) = if c then B else A := by
  by_cases h : c
  · rw [if_pos h, if_pos h, if_neg (by omega)]
  · rw [if_neg h, if_neg h, if_pos rfl]
theorem P_isSup (s : Int) (h : HP) : m_Cb_isSupposition s h = some (if 0 ≤ s ∧ s ≤ 3 then 1 else 0) := by
  unfold m_Cb_isSupposition
  (repeat' split) <;> first | (exfalso; omega) | rfl
theorem P_isPart (p : Int) (h : HP) : m_Cb_isPart p h = some (if 0 ≤ p ∧ p ≤ 1 then 1 else 0) := by
  unfold m_Cb_isPart
  (repeat' split) <;> first | (exfalso; omega) | rfl
theorem P_half (o p a b : Int) (h : HP) (e0 : h o 0 = a) (e1 : h o 1 = b) : m_Ratio_half o p h = some (if p = 0 then a else b) := by
  unfold m_Ratio_half
  rw [e0, e1]
  split <;> rfl
abbrev two (V : Vw) (x y : Int) : Prop := (0 ≤ x ∧ x < V 0 1 0) ∧ (0 ≤ y ∧ y < V 0 1 0) ∧ x ≠ y
theorem A_odds (x y s p : Int) : AA (m_Cb_odds 0 x y s p) (m_Md_odds 126 x y s p) := by
  rintro h ⟨V, R⟩
  obtain ⟨X, M, K, I, T, P⟩ := id R
  have hm := K.m
  unfold m_Cb_odds m_Md_odds
  simp only [Int.zero_add, X_hasTwo X, P_isSup, P_isPart, b1_some, if10, M_isTwo M K, P_in]
  by_cases c : two V x y ∧ (0 ≤ s ∧ s ≤ 3) ∧ (0 ≤ p ∧ p ≤ 1)
  · obtain ⟨g0, h1, e0, e1, r1⟩ := X_asGreat (o := 94) (to := 97) X K (by omega) (show 0 ≤ x ∧ x < 8 by omega) (show 0 ≤ y ∧ y < 8 by omega) c.2.1
    have R1 : Rl h1 V := Rl_fr (Rt_frC (by omega) r1) R
    obtain ⟨h2, e2, q2, f2⟩ := M_asMuch (x := x) (y := y) (s := s) (but := -1) R1.2.1 K (by omega) (by omega) c.2.1
    have ho := ov_bd (x := x) (y := y) (s := s) (but := -1) K
    have hb := bl_bd (x := x) (y := y) (s := s) (but := -1) K
    refine ⟨if p = 0 then rdA (ov V x y s (-1)) (bl V x y s (-1)) else rdB (ov V x y s (-1)) (bl V x y s (-1)), h1, h2, ?_, ?_, V, Rl_fr (frM_frC f2) R1⟩
    · rw [if_pos c.1, if_pos c.2.1, if_pos c.2.2, e0]
      simp only [b1_some]
      rw [e1]
      simp only [b1_some]
      rw [P_half 97 p _ _ h1 r1.1 r1.2.1]
      rfl
    · simp only [M_isTwo R1.2.1 K, b1_some, if10]
      rw [if_pos c.1, if_pos c.2.1, if_pos c.2.2, e2]
      simp only [b2_some]
      rw [q2, M_lowest p h2 ho ⟨by omega, by omega⟩]
      rfl
  · refine ⟨-9223372036854775808, h, h, ?_, ?_, V, R⟩
    · (repeat' split) <;> first | (exfalso; exact c ⟨‹_›, ‹_›, ‹_›⟩) | rfl
    · simp only [M_isTwo M K, b1_some, if10]
      (repeat' split) <;> first | (exfalso; exact c ⟨‹_›, ‹_›, ‹_›⟩) | rfl
