/-! PURE: who is suspect with whom -/
/-- j-th pair is c and d -/
abbrev isP (G : PG) (j c d : Int) : Prop := G j = (c, d) ∨ G j = (d, c)
/-- rows of bits: who is linked by pairs below k -/
def Lkd (V : Vw) (s k : Int) (L : Int → Int) : Prop := ∀ c, 0 ≤ c → c < 8 → is8 (L c) ∧ ∀ d, 0 ≤ d → d < 8 → (bt (L c) d ↔ ∃ j, 0 ≤ j ∧ j < k ∧ isP (Rk V s).2 j c d)
theorem Lkd_eq {V : Vw} {s k : Int} {L M : Int → Int} (a : Lkd V s k L) (b : Lkd V s k M) : ∀ c, 0 ≤ c → c < 8 → L c = M c := fun c c0 c1 => is8_ext (a c c0 c1).1 (b c c0 c1).1 (fun d d0 d1 => ((a c c0 c1).2 d d0 d1).trans ((b c c0 c1).2 d d0 d1).symm)
/-- one pair more -/
theorem Lkd_s {V : Vw} (K : okVw V) {s k x y : Int} {L M : Int → Int} (hk : 0 ≤ k ∧ k < (Rk V s).1) (a : Lkd V s k L) (hx : ((Rk V s).2 k).1 = x) (hy : ((Rk V s).2 k).2 = y) (e1 : M x = iOr (L x) (iShl 1 y)) (e2 : M y = iOr (L y) (iShl 1 x)) (e3 : ∀ c, c ≠ x → c ≠ y → M c = L c) : Lkd V s (k + 1) M := by
  have hm := K.m
  have hi := (Rk_inv K s).1.2.1 k hk.1 hk.2
  have hG : (Rk V s).2 k = (x, y) := by rw [← hx, ← hy]
  rw [hx, hy] at hi
  have sx := is8_sh (c := x) (by omega)
  have sy := is8_sh (c := y) (by omega)
  have ax := a x (by omega) (by omega)
  have ay := a y (by omega) (by omega)
  have ox := is8_or ax.1 sy.1
  have oy := is8_or ay.1 sx.1
  intro c c0 c1
  have old : ∀ d, (∃ j, 0 ≤ j ∧ j < k ∧ isP (Rk V s).2 j c d) → ∃ j, 0 ≤ j ∧ j < k + 1 ∧ isP (Rk V s).2 j c d := fun d w => by
    obtain ⟨j, j0, j1, j2⟩ := w
    exact ⟨j, j0, by omega, j2⟩
  have new : ∀ d, (∃ j, 0 ≤ j ∧ j < k + 1 ∧ isP (Rk V s).2 j c d) → (∃ j, 0 ≤ j ∧ j < k ∧ isP (Rk V s).2 j c d) ∨ (c = x ∧ d = y) ∨ (c = y ∧ d = x) := fun d w => by
    obtain ⟨j, j0, j1, j2⟩ := w
    by_cases e : j = k
    · rw [e] at j2
      unfold isP at j2
      rw [hG] at j2
      rcases j2 with q | q
      · injection q with q1 q2
        exact Or.inr (Or.inl ⟨q1.symm, q2.symm⟩)
      · injection q with q1 q2
        exact Or.inr (Or.inr ⟨q2.symm, q1.symm⟩)
    · exact Or.inl ⟨j, j0, by omega, j2⟩
  by_cases q1 : c = x
  · rw [q1, e1]
    refine ⟨ox.1, fun d d0 d1 => ?_⟩
    rw [ox.2 d, ax.2 d d0 d1, sy.2 d d0]
    rw [q1] at old new
    constructor
    · rintro (w | w)
      · exact old d w
      · exact ⟨k, hk.1, by omega, Or.inl (by rw [hG, w])⟩
    · intro w
      rcases new d w with q | q | q
      · exact Or.inl q
      · exact Or.inr q.2
      · omega
  · by_cases q2 : c = y
    · rw [q2, e2]
      refine ⟨oy.1, fun d d0 d1 => ?_⟩
      rw [oy.2 d, ay.2 d d0 d1, sx.2 d d0]
      rw [q2] at old new
      constructor
      · rintro (w | w)
        · exact old d w
        · exact ⟨k, hk.1, by omega, Or.inr (by rw [hG, w])⟩
      · intro w
        rcases new d w with q | q | q
        · exact Or.inl q
        · omega
        · exact Or.inr q.2
    · rw [e3 c q1 q2]
      refine ⟨(a c c0 c1).1, fun d d0 d1 => ?_⟩
      rw [(a c c0 c1).2 d d0 d1]
      constructor
      · exact old d
      · intro w
        rcases new d w with q | q | q
        · exact q
        · exact absurd q.1 q1
        · exact absurd q.1 q2
theorem Lkd_0 {V : Vw} {s : Int} {L : Int → Int} (h : ∀ c, 0 ≤ c → c < 8 → L c = 0) : Lkd V s 0 L := fun c c0 c1 => by
  rw [h c c0 c1]
  exact ⟨is8_0.1, fun d _ _ => ⟨fun q => absurd q (is8_0.2 d), fun w => by obtain ⟨j, j0, j1, _⟩ := w; omega⟩⟩
/-- what such rows are -/
def Lok (m : Int) (L : Int → Int) : Prop := ∀ c, 0 ≤ c → c < 8 → is8 (L c) ∧ ¬ bt (L c) c ∧ ∀ d, 0 ≤ d → d < 8 → bt (L c) d → d < m ∧ c < m
theorem Lkd_ok {V : Vw} (K : okVw V) {s k : Int} {L : Int → Int} (hk : k ≤ (Rk V s).1) (a : Lkd V s k L) : Lok (V 0 1 0) L := fun c c0 c1 => by
  have hi := (Rk_inv K s).1.2.1
  have h := a c c0 c1
  refine ⟨h.1, fun q => ?_, fun d d0 d1 q => ?_⟩
  · obtain ⟨j, j0, j1, j2⟩ := (h.2 c c0 c1).1 q
    have h2 := hi j j0 (by omega)
    rcases j2 with e | e <;> rw [e] at h2 <;> (try dsimp only at h2) <;> omega
  · obtain ⟨j, j0, j1, j2⟩ := (h.2 d d0 d1).1 q
    have h2 := hi j j0 (by omega)
    rcases j2 with e | e <;> rw [e] at h2 <;> (try dsimp only at h2) <;> omega
section LK
variable {h : HP} {V : Vw}
theorem X_take (K : okVw V) {s : Int} (hR : XRk V 99 s h) : ∃ h1, m_Links_take 106 99 h = some h1 ∧ Lkd V s (Sc V s) (h1 107) ∧ ∀ p j, p ≠ 107 → h1 p j = h p j := by
  have hS := Sc_bd K s
  have hi := Rk_inv K s
  have hm := K.m
  unfold m_Links_take m_Links_take_L2
  refine loop_ex (fun k t => t.1 = k ∧ (∀ c, 0 ≤ c → c < k → t.2 107 c = 0) ∧ ∀ p j, p ≠ 107 → t.2 p j = h p j) 0 8 _ (by omega) (by omega) ⟨rfl, fun c a b => by omega, fun p j q => rfl⟩ (fun k t k0 k1 hS => ?_) (fun t hS => ?_)
  · obtain ⟨k', g⟩ := t
    obtain ⟨z1, z2, z3⟩ := hS
    (try dsimp only at z1 z2 z3 ⊢)
    subst z1
    unfold m_Links_take_L2b
    simp only [Int.reduceAdd]
    rw [if_neg (by omega), if_pos (by omega), w32_id (by omega) (by omega)]
    refine ⟨_, rfl, rfl, fun c a b => ?_, fun p j q => ?_⟩
    · (try dsimp only)
      by_cases e : c = k'
      · rw [e, upd2_eq]
      · rw [upd2_nj _ e]
        exact z2 c a (by omega)
    · (try dsimp only)
      rw [upd2_np _ q]
      exact z3 p j q
  · obtain ⟨k', g⟩ := t
    obtain ⟨z1, z2, z3⟩ := hS
    (try dsimp only at z1 z2 z3 ⊢)
    subst z1
    unfold m_Links_take_L2b
    rw [if_pos (by omega)]
    have key : ∃ h1, m_Links_take_L23 106 99 (0, g) = some h1 ∧ Lkd V s (Sc V s) (h1 107) ∧ ∀ p j, p ≠ 107 → h1 p j = h p j := by
      unfold m_Links_take_L23
      refine loop_ex (fun k t => t.1 = k ∧ Lkd V s k (t.2 107) ∧ ∀ p j, p ≠ 107 → t.2 p j = h p j) 0 (Sc V s) _ (by omega) (by omega) ⟨rfl, Lkd_0 z2, z3⟩ (fun k t k0 k1 hS => ?_) (fun t hS => ?_)
      · obtain ⟨k', g⟩ := t
        obtain ⟨w1, w2, w3⟩ := hS
        (try dsimp only at w1 w2 w3 ⊢)
        subst w1
        have hk : 0 ≤ k' ∧ k' < (Rk V s).1 := by omega
        have hx := hi.1.2.1 k' hk.1 hk.2
        have e1 : g 100 k' = ((Rk V s).2 k').1 := by
          rw [w3 100 k' (by omega)]
          exact (hR.1.2 k' hk.1 hk.2).1
        have e2 : g 101 k' = ((Rk V s).2 k').2 := by
          rw [w3 101 k' (by omega)]
          exact (hR.1.2 k' hk.1 hk.2).2.1
        have e0 : g 99 1 = Sc V s := by
          rw [w3 99 1 (by omega)]
          exact hR.2
        unfold m_Links_take_L23b
        simp only [Int.reduceAdd, bv_some]
        rw [e0, e1, e2, if_neg (by omega), if_pos (by omega), if_pos (by omega), if_pos (by omega), if_pos (by omega), if_pos (by omega), if_pos (by omega), w32_id (by omega) (by omega)]
        refine ⟨_, rfl, rfl, ?_, fun p j q => ?_⟩
        · (try dsimp only)
          refine Lkd_s K hk w2 rfl rfl ?_ ?_ (fun c q1 q2 => ?_)
          · rw [upd2_nj _ (by omega), upd2_eq]
          · rw [upd2_eq, upd2_nj _ (by omega)]
          · rw [upd2_nj _ q2, upd2_nj _ q1]
        · (try dsimp only)
          rw [upd2_np _ q, upd2_np _ q]
          exact w3 p j q
      · obtain ⟨k', g⟩ := t
        obtain ⟨w1, w2, w3⟩ := hS
        (try dsimp only at w1 w2 w3 ⊢)
        subst w1
        have e0 : g 99 1 = Sc V s := by
          rw [w3 99 1 (by omega)]
          exact hR.2
        unfold m_Links_take_L23b
        rw [e0, if_pos (by omega)]
        exact ⟨_, rfl, w2, w3⟩
    obtain ⟨h1, e, q⟩ := key
    rw [e]
    exact ⟨h1, rfl, q⟩
theorem X_linkNow (X : isX 1 h V) (K : okVw V) : ∃ h1, m_Cb_linkNow 0 h = some h1 ∧ XRk V 99 (V 7 0 0) h1 ∧ Lkd V (V 7 0 0) (Sc V (V 7 0 0)) (h1 107) ∧ frC h h1 := by
  have hu := K.us
  obtain ⟨g, e1, r1, f1'⟩ := X_order (o := 99) (e := 94) X K (by omega) (by omega) hu.1
  have f1 := frK_frC f1'
  obtain ⟨h1, e2, q, f2⟩ := X_take K r1
  have eu : h 24 0 = V 7 0 0 := X.us (by omega) (by omega)
  unfold m_Cb_linkNow
  simp only [Int.zero_add, Int.reduceAdd]
  rw [eu, e1]
  simp only [b1_some]
  rw [e2]
  refine ⟨h1, rfl, ⟨⟨?_, fun j j0 j1 => ?_⟩, ?_⟩, q, f1.tr (fun p j n => ?_)⟩
  · rw [f2 99 0 (by omega)]
    exact r1.1.1
  · rw [f2 (99 + 1) j (by omega), f2 (99 + 2) j (by omega), f2 (99 + 3) j (by omega), f2 (99 + 4) j (by omega)]
    exact r1.1.2 j j0 j1
  · rw [f2 99 1 (by omega)]
    exact r1.2
  · unfold scr at n
    exact f2 p j (by omega)
theorem M_binds (M : isM h V) (K : okVw V) : ∃ h1, m_Md_binds 126 h = some h1 ∧ MRk V (V 7 0 0) h1 ∧ Lkd V (V 7 0 0) (Sc V (V 7 0 0)) (h1 149) ∧ frC h h1 := by
  have hS := Sc_bd K (V 7 0 0)
  have hi := Rk_inv K (V 7 0 0)
  have hm := K.m
  obtain ⟨g0, e0, r0, f0⟩ := M_orders M K
  unfold m_Md_binds m_Md_binds_L6
  rw [e0]
  simp only [b1_some]
  have fin : ∀ g, (∀ p j, p ≠ 149 → g p j = g0 p j) → MRk V (V 7 0 0) g ∧ frC h g := fun g f => by
    refine ⟨⟨⟨?_, fun j j0 j1 => ?_⟩, fun j j0 j1 => ?_⟩, (frR_frC f0).tr (fun p j n => ?_)⟩
    · rw [f 126 29 (by omega)]
      exact r0.1.1
    · rw [f 144 j (by omega), f 145 j (by omega), f 146 j (by omega), f 147 j (by omega)]
      exact r0.1.2 j j0 j1
    · rw [f 148 j (by omega)]
      exact r0.2 j j0 j1
    · unfold scr at n
      exact f p j (by omega)
  refine loop_ex (fun k t => t.1 = k ∧ (∀ c, 0 ≤ c → c < k → t.2 149 c = 0) ∧ ∀ p j, p ≠ 149 → t.2 p j = g0 p j) 0 8 _ (by omega) (by omega) ⟨rfl, fun c a b => by omega, fun p j q => rfl⟩ (fun k t k0 k1 hS => ?_) (fun t hS => ?_)
  · obtain ⟨k', g⟩ := t
    obtain ⟨z1, z2, z3⟩ := hS
    (try dsimp only at z1 z2 z3 ⊢)
    subst z1
    unfold m_Md_binds_L6b
    simp only [Int.reduceAdd]
    rw [if_neg (by omega), if_pos (by omega), w32_id (by omega) (by omega)]
    refine ⟨_, rfl, rfl, fun c a b => ?_, fun p j q => ?_⟩
    · (try dsimp only)
      by_cases e : c = k'
      · rw [e, upd2_eq]
      · rw [upd2_nj _ e]
        exact z2 c a (by omega)
    · (try dsimp only)
      rw [upd2_np _ q]
      exact z3 p j q
  · obtain ⟨k', g⟩ := t
    obtain ⟨z1, z2, z3⟩ := hS
    (try dsimp only at z1 z2 z3 ⊢)
    subst z1
    unfold m_Md_binds_L6b
    rw [if_pos (by omega)]
    have key : ∃ h1, m_Md_binds_L27 126 (0, g) = some h1 ∧ MRk V (V 7 0 0) h1 ∧ Lkd V (V 7 0 0) (Sc V (V 7 0 0)) (h1 149) ∧ frC h h1 := by
      unfold m_Md_binds_L27
      refine loop_ex (fun k t => t.1 = k ∧ Lkd V (V 7 0 0) (if k < Sc V (V 7 0 0) then k else Sc V (V 7 0 0)) (t.2 149) ∧ ∀ p j, p ≠ 149 → t.2 p j = g0 p j) 0 (Rk V (V 7 0 0)).1 _ (by omega) (by omega) ⟨rfl, ?_, z3⟩ (fun k t k0 k1 hS => ?_) (fun t hS => ?_)
      · (try dsimp only)
        by_cases q : 0 < Sc V (V 7 0 0)
        · rw [if_pos q]
          exact Lkd_0 z2
        · rw [if_neg q, show Sc V (V 7 0 0) = 0 by omega]
          exact Lkd_0 z2
      · obtain ⟨k', g⟩ := t
        obtain ⟨w1, w2, w3⟩ := hS
        (try dsimp only at w1 w2 w3 ⊢)
        subst w1
        have hk : 0 ≤ k' ∧ k' < (Rk V (V 7 0 0)).1 := by omega
        have hx := hi.1.2.1 k' hk.1 hk.2
        have e1 : g 144 k' = ((Rk V (V 7 0 0)).2 k').1 := by
          rw [w3 144 k' (by omega)]
          exact (r0.1.2 k' hk.1 hk.2).1
        have e2 : g 145 k' = ((Rk V (V 7 0 0)).2 k').2 := by
          rw [w3 145 k' (by omega)]
          exact (r0.1.2 k' hk.1 hk.2).2.1
        have e3 : g 126 29 = (Rk V (V 7 0 0)).1 := by
          rw [w3 126 29 (by omega)]
          exact r0.1.1
        have e4 : g 148 k' = if k' < Sc V (V 7 0 0) then 1 else 0 := by
          rw [w3 148 k' (by omega)]
          exact r0.2 k' hk.1 hk.2
        have u1 : ∀ i v j, upd2 g 149 i v 144 j = g 144 j := fun i v j => upd2_np _ (by omega)
        have u2 : ∀ i v j, upd2 g 149 i v 145 j = g 145 j := fun i v j => upd2_np _ (by omega)
        unfold m_Md_binds_L27b
        simp only [Int.reduceAdd, bv_some, u1, u2]
        rw [e3, if_neg (by omega), if_pos (by omega), w32_id (by omega) (by omega)]
        by_cases q : k' < Sc V (V 7 0 0)
        · rw [if_pos q] at e4 w2
          rw [if_neg (by rw [e4]; omega)]
          simp only [if_pos (show 0 ≤ k' ∧ k' < 28 by omega), e1, e2]
          rw [if_pos (by omega), if_pos (by omega), if_pos (by omega), if_pos (by omega)]
          refine ⟨_, rfl, rfl, ?_, fun p j q => ?_⟩
          · (try dsimp only)
            have e5 : (if k' + 1 < Sc V (V 7 0 0) then k' + 1 else Sc V (V 7 0 0)) = k' + 1 := by
              split <;> omega
            rw [e5]
            refine Lkd_s K hk w2 rfl rfl ?_ ?_ (fun c q1 q2 => ?_)
            · rw [upd2_nj _ (by omega), upd2_eq]
            · rw [upd2_eq, upd2_nj _ (by omega)]
            · rw [upd2_nj _ q2, upd2_nj _ q1]
          · (try dsimp only)
            rw [upd2_np _ q, upd2_np _ q]
            exact w3 p j q
        · rw [if_neg q] at e4 w2
          rw [if_pos (by rw [e4])]
          refine ⟨_, rfl, rfl, ?_, w3⟩
          (try dsimp only)
          rw [if_neg (by omega)]
          exact w2
      · obtain ⟨k', g⟩ := t
        obtain ⟨w1, w2, w3⟩ := hS
        (try dsimp only at w1 w2 w3 ⊢)
        have e3 : g 126 29 = (Rk V (V 7 0 0)).1 := by
          rw [w3 126 29 (by omega)]
          exact r0.1.1
        rw [if_neg (by omega)] at w2
        unfold m_Md_binds_L27b
        rw [e3, if_pos (by omega)]
        have := fin g w3
        exact ⟨_, rfl, this.1, w2, this.2⟩
    obtain ⟨h1, e, q⟩ := key
    rw [e]
    exact ⟨h1, rfl, q⟩
end LK
theorem A_linked (x : Int) : AA (m_Cb_linked 0 x) (m_Md_linked 126 x) := by
  rintro h ⟨V, R⟩
  obtain ⟨X, M, K, I, T, P⟩ := id R
  have hm := K.m
  unfold m_Cb_linked m_Md_linked
  simp only [Int.zero_add, X_hasCandidate X, b1_some, if10, Int.reduceAdd]
  by_cases c : 0 ≤ x ∧ x < V 0 1 0
  · obtain ⟨h1, e1, r1, l1, f1⟩ := X_linkNow X K
    have R1 : Rl h1 V := Rl_fr f1 R
    obtain ⟨h2, e2, r2, l2, f2⟩ := M_binds R1.2.1 K
    refine ⟨h1 107 x, h1, h2, ?_, ?_, V, Rl_fr f2 R1⟩
    · rw [if_pos c, e1]
      simp only [b1_some]
      rw [if_pos (by omega)]
    · simp only [M_isOne R1.2.1 K, b1_some, if10]
      rw [if_pos c, e2]
      simp only [b1_some]
      rw [if_pos (by omega), Lkd_eq l1 l2 x (by omega) (by omega)]
  · refine ⟨-1, h, h, ?_, ?_, V, R⟩
    · rw [if_neg c]
    · simp only [M_isOne M K, b1_some, if10]
      rw [if_neg c]
