/-! PURE: the plan followed -/
theorem okVw.plan {V : Vw} (K : okVw V) (k : Int) (h1 : 0 ≤ k) (h2 : k < V 0 3 0) : (V 11 k 0 = 0 ∧ 0 ≤ V 12 k 0 ∧ V 12 k 0 < V 0 1 0) ∨ ((V 11 k 0 = 1 ∨ V 11 k 0 = 2) ∧ 0 ≤ V 12 k 0 ∧ V 12 k 0 < V 0 0 0 ∧ 0 ≤ V 13 k 0 ∧ V 13 k 0 ≤ 3) ∨ (V 11 k 0 = 3 ∧ 0 ≤ V 12 k 0 ∧ V 12 k 0 < V 0 1 0 ∧ 0 ≤ V 13 k 0 ∧ V 13 k 0 < V 0 1 0 ∧ V 12 k 0 ≠ V 13 k 0) := K.2.2.2.2.2.2.2.2.2.2.2.2.2.2.2.2.1 k h1 h2
def rowV (W : Vw) (k : Int) (g : Int → Int) : Vw := fun f a b => if f = 4 ∧ a = k then g b else W f a b
def appP (w k v : Int) (W : Vw) : Vw := if w = 0 then rowV W k (fun _ => -1) else if w = 1 then upV W 1 k 0 v else if w = 2 then upV W 2 k 0 v else rowV W k (fun b => W 4 v b)
/-- a row of the plan that can be followed -/
def okP (V : Vw) (w k v : Int) : Prop := (w = 0 ∧ 0 ≤ k ∧ k < V 0 1 0) ∨ ((w = 1 ∨ w = 2) ∧ 0 ≤ k ∧ k < V 0 0 0 ∧ 0 ≤ v ∧ v ≤ 3) ∨ (w = 3 ∧ 0 ≤ k ∧ k < V 0 1 0 ∧ 0 ≤ v ∧ v < V 0 1 0 ∧ k ≠ v)
theorem rowV_n {W : Vw} {k f a b : Int} {g : Int → Int} (n : ¬ (f = 4 ∧ a = k)) : rowV W k g f a b = W f a b := by
  unfold rowV
  rw [if_neg n]
theorem appP_n {w k v f a b : Int} {W : Vw} (n : f ≠ 1 ∧ f ≠ 2 ∧ f ≠ 4) : appP w k v W f a b = W f a b := by
  unfold appP
  (repeat' split) <;> first | (rw [rowV_n (by omega)]) | (unfold upV; rw [if_neg (by omega)])
theorem isX_row {o k : Int} {h h1 : HP} {W : Vw} {g : Int → Int} (X : isX o h W) (hk : 0 ≤ k ∧ k < 8) (hf : ∀ p j, o ≤ p → p ≤ o + 29 → p ≠ o + k + 13 → h1 p j = h p j) (hg : ∀ b, 0 ≤ b → b < 8 → h1 (o + k + 13) b = g b) : isX o h1 (rowV W k g) := by
  unfold isX at X ⊢
  obtain ⟨x0, x1, x2, x3, x4, x5, x6, x7, x8, x9, x10, x11, x12⟩ := X
  refine ⟨?_, ?_, ?_, ?_, fun i a b => ?_, fun i a b => ?_, fun i j a b c d => ?_, fun i j a b c d => ?_, fun i a b => ?_, fun i a b => ?_, fun i a b => ?_, fun i a b => ?_, fun i a b => ?_⟩
  · rw [hf _ _ (by omega) (by omega) (by omega), rowV_n (by omega)]; exact x0
  · rw [hf _ _ (by omega) (by omega) (by omega), rowV_n (by omega)]; exact x1
  · rw [hf _ _ (by omega) (by omega) (by omega), rowV_n (by omega)]; exact x2
  · rw [hf _ _ (by omega) (by omega) (by omega), rowV_n (by omega)]; exact x3
  · rw [hf _ _ (by omega) (by omega) (by omega), rowV_n (by omega)]; exact x4 i a b
  · rw [hf _ _ (by omega) (by omega) (by omega), rowV_n (by omega)]; exact x5 i a b
  · rw [hf _ _ (by omega) (by omega) (by omega), rowV_n (by omega)]; exact x6 i j a b c d
  · by_cases e : i = k
    · rw [e, hg j c d]
      unfold rowV
      rw [if_pos ⟨rfl, rfl⟩]
    · rw [hf _ _ (by omega) (by omega) (by omega), rowV_n (by omega)]; exact x7 i j a b c d
  · rw [hf _ _ (by omega) (by omega) (by omega), rowV_n (by omega)]; exact x8 i a b
  · rw [hf _ _ (by omega) (by omega) (by omega), rowV_n (by omega)]; exact x9 i a b
  · rw [hf _ _ (by omega) (by omega) (by omega), rowV_n (by omega)]; exact x10 i a b
  · rw [hf _ _ (by omega) (by omega) (by omega), hf _ _ (by omega) (by omega) (by omega), hf _ _ (by omega) (by omega) (by omega), rowV_n (by omega), rowV_n (by omega), rowV_n (by omega)]; exact x11 i a b
  · rw [hf _ _ (by omega) (by omega) (by omega), hf _ _ (by omega) (by omega) (by omega), hf _ _ (by omega) (by omega) (by omega), rowV_n (by omega), rowV_n (by omega), rowV_n (by omega)]; exact x12 i a b
theorem isM_row {k : Int} {h h1 : HP} {W : Vw} {g : Int → Int} (X : isM h W) (hf : ∀ p j, (p = 126 ∧ (j ≤ 1 ∨ j = 15 ∨ j = 16)) ∨ (127 ≤ p ∧ p ≤ 139) → ¬ (p = 130 ∧ 8 * k ≤ j ∧ j < 8 * k + 8) → h1 p j = h p j) (hg : ∀ b, 0 ≤ b → b < 8 → h1 130 (8 * k + b) = g b) : isM h1 (rowV W k g) := by
  have em : rowV W k g 0 1 0 = W 0 1 0 := rowV_n (by omega)
  unfold isM at X ⊢
  rw [em]
  obtain ⟨x0, x1, x2, x3, x4, x5, x6, x7, x8, x9, x10, x11, x12⟩ := X
  refine ⟨?_, ?_, ?_, ?_, fun i a b => ?_, fun i a b => ?_, fun i j a b c d => ?_, fun i j a b c d => ?_, fun i a b => ?_, fun i a b => ?_, fun i a b => ?_, fun i a b => ?_, fun i a b => ?_⟩
  · rw [hf _ _ (by omega) (by omega), rowV_n (by omega)]; exact x0
  · rw [hf _ _ (by omega) (by omega)]; exact x1
  · rw [hf _ _ (by omega) (by omega), rowV_n (by omega)]; exact x2
  · rw [hf _ _ (by omega) (by omega), rowV_n (by omega)]; exact x3
  · rw [hf _ _ (by omega) (by omega), rowV_n (by omega)]; exact x4 i a b
  · rw [hf _ _ (by omega) (by omega), rowV_n (by omega)]; exact x5 i a b
  · rw [hf _ _ (by omega) (by omega), rowV_n (by omega)]; exact x6 i j a b c d
  · by_cases e : i = k
    · rw [e, hg j c d]
      unfold rowV
      rw [if_pos ⟨rfl, rfl⟩]
    · rw [hf _ _ (by omega) (by omega), rowV_n (by omega)]; exact x7 i j a b c d
  · rw [hf _ _ (by omega) (by omega), rowV_n (by omega)]; exact x8 i a b
  · rw [hf _ _ (by omega) (by omega), rowV_n (by omega)]; exact x9 i a b
  · rw [hf _ _ (by omega) (by omega), rowV_n (by omega)]; exact x10 i a b
  · rw [hf _ _ (by omega) (by omega), hf _ _ (by omega) (by omega), hf _ _ (by omega) (by omega), rowV_n (by omega), rowV_n (by omega), rowV_n (by omega)]; exact x11 i a b
  · rw [hf _ _ (by omega) (by omega), hf _ _ (by omega) (by omega), hf _ _ (by omega) (by omega), rowV_n (by omega), rowV_n (by omega), rowV_n (by omega)]; exact x12 i a b
theorem okVw_row {W : Vw} {k : Int} {g : Int → Int} (K : okVw W) (hk : 0 ≤ k ∧ k < W 0 1 0) (hg : ∀ b, 0 ≤ b → b < 8 → -1 ≤ g b ∧ g b ≤ 3) : okVw (rowV W k g) := by
  have e : ∀ f a b, f ≠ 4 → rowV W k g f a b = W f a b := fun f a b n => rowV_n (fun q => n q.1)
  unfold okVw at K ⊢
  simp only [e 0 _ _ (by omega), e 1 _ _ (by omega), e 2 _ _ (by omega), e 3 _ _ (by omega), e 5 _ _ (by omega), e 6 _ _ (by omega), e 7 _ _ (by omega), e 10 _ _ (by omega), e 11 _ _ (by omega), e 12 _ _ (by omega), e 13 _ _ (by omega)]
  obtain ⟨x0, x1, x2, x3, x4, x5, x6, x7, x8, x9, x10, x11, x12, x13, x14, x15, x16, x17⟩ := K
  refine ⟨x0, x1, x2, x3, x4, x5, x6, fun c i a b a' b' => ?_, x8, x9, x10, x11, x12, x13, x14, fun c i q => ?_, x16, x17⟩
  · by_cases q : c = k
    · unfold rowV
      rw [if_pos ⟨rfl, q⟩]
      exact hg i a' b'
    · rw [rowV_n (fun w => q w.2)]
      exact x7 c i a b a' b'
  · rw [rowV_n (by omega)]
    exact x15 c i q
section Follow
variable {h : HP} {W : Vw} {w k v : Int}
theorem okVw_app (K : okVw W) (hp : okP W w k v) : okVw (appP w k v W) := by
  have hn := K.n
  have hm := K.m
  unfold okP at hp
  unfold appP
  by_cases c0 : w = 0
  · rw [if_pos c0]
    exact okVw_row K (by omega) (fun b _ _ => by (try dsimp only); omega)
  · rw [if_neg c0]
    by_cases c1 : w = 1
    · rw [if_pos c1]
      exact okVw_put (by unfold rgV; omega) K
    · rw [if_neg c1]
      by_cases c2 : w = 2
      · rw [if_pos c2]
        exact okVw_put (by unfold rgV; omega) K
      · rw [if_neg c2]
        exact okVw_row K (by omega) (fun b b0 b1 => K.gv v b (by omega) (by omega) b0 b1)
theorem X_follow {o : Int} (X : isX o h W) (K : okVw W) (hp : okP W w k v) : ∃ h1, m_Exam_follow o w k v h = some h1 ∧ isX o h1 (appP w k v W) ∧ ∀ p j, ¬ (o ≤ p ∧ p ≤ o + 29) → h1 p j = h p j := by
  have hn := K.n
  have hm := K.m
  unfold okP at hp
  have can : m_Exam_canPlan o w k v h = some 1 := by
    unfold m_Exam_canPlan m_Exam_canPlan_J38
    rw [X_hasCandidate X, X_hasItem X, X_hasTwo X]
    simp only [b1_some]
    (repeat' split) <;> first | rfl | (exfalso; omega)
  unfold m_Exam_follow
  rw [can]
  simp only [b1_some]
  rw [if_neg (by omega)]
  unfold appP
  by_cases c0 : w = 0
  · rw [if_pos c0, if_pos c0, X_leaveBlank o k h (by omega)]
    refine ⟨_, rfl, isX_row X (by omega) (fun p j a b n => ?_) (fun b b0 b1 => ?_), fun p j n => ?_⟩
    · unfold Bl
      rw [if_neg (by omega)]
    · unfold Bl
      rw [if_pos (by omega)]
    · unfold Bl
      rw [if_neg (by omega)]
  · rw [if_neg c0, if_neg c0]
    by_cases c1 : w = 1
    · rw [if_pos c1, if_pos c1, if_pos (by omega)]
      refine ⟨_, rfl, isX_put v (by unfold atX; omega) X, fun p j n => upd2_np _ (by omega)⟩
    · rw [if_neg c1, if_neg c1]
      by_cases c2 : w = 2
      · rw [if_pos c2, if_pos c2, if_pos (by omega)]
        refine ⟨_, rfl, isX_put v (by unfold atX; omega) X, fun p j n => upd2_np _ (by omega)⟩
      · rw [if_neg c2, if_neg c2, if_pos (by omega), if_pos (by omega)]
        refine ⟨_, rfl, isX_row X (by omega) (fun p j a b n => ?_) (fun b b0 b1 => ?_), fun p j n => ?_⟩
        · unfold blit
          rw [if_neg (by omega)]
        · unfold blit
          rw [if_pos (by omega), show (0 : Int) + (b - 0) = b by omega]
          exact X.gv (by omega) (by omega) b0 b1
        · unfold blit
          rw [if_neg (by omega)]
theorem M_goes (M : isM h W) (K : okVw W) (hp : okP W w k v) : ∃ h1, m_Md_goes 126 w k v h = some h1 ∧ isM h1 (appP w k v W) ∧ ∀ p j, ¬ ((p = 127 ∨ p = 128) ∧ 0 ≤ j ∧ j < 8) → ¬ (p = 130 ∧ 0 ≤ j ∧ j < 64) → h1 p j = h p j := by
  have hn := K.n
  have hm := K.m
  unfold okP at hp
  have un : ∀ (g : HP) r i x p j, ¬ (p = r ∧ j = i) → upd2 g r i x p j = g p j := fun g r i x p j n => by
    unfold upd2
    rw [if_neg n]
  unfold m_Md_goes
  unfold appP
  by_cases c1 : w = 1
  · rw [if_pos c1, if_pos (by omega), if_neg (by omega), if_pos c1]
    refine ⟨_, rfl, isM_put v (by unfold atM; omega) M, fun p j n1 n2 => un _ _ _ _ _ _ (by omega)⟩
  · rw [if_neg c1]
    by_cases c2 : w = 2
    · rw [if_pos c2, if_pos (by omega), if_neg (by omega), if_neg c1, if_pos c2]
      refine ⟨_, rfl, isM_put v (by unfold atM; omega) M, fun p j n1 n2 => un _ _ _ _ _ _ (by omega)⟩
    · rw [if_neg c2]
      have key : ∀ g : Int → Int, (∀ b, 0 ≤ b → b < 8 → g b = if w = 0 then -1 else W 4 v b) → ∃ h1, m_Md_goes_L51 126 w k v (0, h) = some h1 ∧ isM h1 (rowV W k g) ∧ ∀ p j, ¬ ((p = 127 ∨ p = 128) ∧ 0 ≤ j ∧ j < 8) → ¬ (p = 130 ∧ 0 ≤ j ∧ j < 64) → h1 p j = h p j := fun g hg => by
        unfold m_Md_goes_L51
        suffices key2 : ∃ h1, loopO (fun s : Int × HP => m_Md_goes_L51b 126 w k v s.1 s.2) FUEL (0, h) = some h1 ∧ ((∀ b, 0 ≤ b → b < 8 → h1 130 (8 * k + b) = g b) ∧ ∀ p j, ¬ (p = 130 ∧ 8 * k ≤ j ∧ j < 8 * k + 8) → h1 p j = h p j) by
          obtain ⟨h1, e, q1, q2⟩ := key2
          exact ⟨h1, e, isM_row M (fun p j _ n => q2 p j n) q1, fun p j n1 n2 => q2 p j (by omega)⟩
        refine loop_ex (fun b (t : Int × HP) => t.1 = b ∧ (∀ i, 0 ≤ i → i < b → t.2 130 (8 * k + i) = g i) ∧ ∀ p j, ¬ (p = 130 ∧ 8 * k ≤ j ∧ j < 8 * k + 8) → t.2 p j = h p j) 0 8 _ (by omega) (by omega) ⟨rfl, fun i a b => by omega, fun p j n => rfl⟩ (fun b t b0 b1 hS => ?_) (fun t hS => ?_)
        · obtain ⟨b', g0⟩ := t
          obtain ⟨z1, z2, z3⟩ := hS
          (try dsimp only at z1 z2 z3 ⊢)
          subst z1
          have st : ∀ x, x = g b' → ∃ t, m_Md_goes_J89 126 w k v b' 130 (8 * k + b') x g0 = some (.inl t) ∧ t.1 = b' + 1 ∧ (∀ i, 0 ≤ i → i < b' + 1 → t.2 130 (8 * k + i) = g i) ∧ ∀ p j, ¬ (p = 130 ∧ 8 * k ≤ j ∧ j < 8 * k + 8) → t.2 p j = h p j := fun x hx => by
            unfold m_Md_goes_J89
            rw [if_pos (by omega), w32_id (by omega) (by omega)]
            refine ⟨_, rfl, rfl, fun i a b => ?_, fun p j n => ?_⟩
            · (try dsimp only)
              by_cases e : i = b'
              · rw [e, upd2_eq]
                exact hx
              · rw [upd2_nj _ (by omega)]
                exact z2 i a (by omega)
            · (try dsimp only)
              rw [un _ _ _ _ _ _ (by omega)]
              exact z3 p j n
          unfold m_Md_goes_L51b
          rw [if_neg (by omega), w32_id (x := 8 * k) (by omega) (by omega), w32_id (x := 8 * k + b') (by omega) (by omega)]
          simp only [Int.reduceAdd]
          have hgb := hg b' b0 b1
          by_cases c0 : w = 0
          · rw [if_pos c0] at hgb ⊢
            exact st _ hgb.symm
          · rw [if_neg c0] at hgb ⊢
            rw [w32_id (x := 8 * v) (by omega) (by omega), w32_id (x := 8 * v + b') (by omega) (by omega), if_pos (by omega)]
            refine st _ ?_
            rw [hgb, z3 130 (8 * v + b') (by omega)]
            exact M.gv (by omega) (by omega) b0 b1
        · obtain ⟨b', g0⟩ := t
          obtain ⟨z1, z2, z3⟩ := hS
          (try dsimp only at z1 z2 z3 ⊢)
          subst z1
          unfold m_Md_goes_L51b
          rw [if_pos (by omega)]
          exact ⟨_, rfl, z2, z3⟩
      by_cases c0 : w = 0
      · rw [if_pos c0]
        exact key (fun _ => -1) (fun b _ _ => by rw [if_pos c0])
      · rw [if_neg c0, if_neg c1, if_neg c2]
        exact key (fun b => W 4 v b) (fun b _ _ => by rw [if_neg c0])
end Follow
def plN (V : Vw) : Nat → Vw
  | 0 => V
  | i + 1 => appP (V 11 i 0) (V 12 i 0) (V 13 i 0) (plN V i)
theorem plN_n {V : Vw} {f a b : Int} (n : f ≠ 1 ∧ f ≠ 2 ∧ f ≠ 4) (i : Nat) : plN V i f a b = V f a b := by
  induction i with
  | zero => rfl
  | succ i ih =>
    unfold plN
    rw [appP_n n, ih]
theorem plN_s (V : Vw) {i : Int} (hi : 0 ≤ i) : plN V (i + 1).toNat = appP (V 11 i 0) (V 12 i 0) (V 13 i 0) (plN V i.toNat) := by
  rw [show (i + 1).toNat = i.toNat + 1 by omega]
  show appP (V 11 (i.toNat : Int) 0) (V 12 (i.toNat : Int) 0) (V 13 (i.toNat : Int) 0) (plN V i.toNat) = _
  rw [show ((i.toNat : Nat) : Int) = i by omega]
theorem plN_okP {V : Vw} (K : okVw V) {i : Int} (hi : 0 ≤ i ∧ i < V 0 3 0) : okP (plN V i.toNat) (V 11 i 0) (V 12 i 0) (V 13 i 0) := by
  have h := K.plan i hi.1 hi.2
  unfold okP
  rw [plN_n (by omega), plN_n (by omega)]
  omega
theorem plN_ok {V : Vw} (K : okVw V) (i : Nat) : (i : Int) ≤ V 0 3 0 → okVw (plN V i) := by
  induction i with
  | zero => intro _; exact K
  | succ i ih =>
    intro hi
    have h := plN_okP K (i := (i : Int)) (by omega)
    rw [show ((i : Int)).toNat = i by omega] at h
    unfold plN
    exact okVw_app (ih (by omega)) h
section Ends
variable {h : HP} {V : Vw}
theorem X_followPlan {o : Int} (X : isX o h V) (K : okVw V) : ∃ h1, m_Exam_followPlan o h = some h1 ∧ isX o h1 (plN V (V 0 3 0).toNat) ∧ ∀ p j, ¬ (o ≤ p ∧ p ≤ o + 29) → h1 p j = h p j := by
  have hp := K.p
  unfold m_Exam_followPlan m_Exam_followPlan_L2
  refine loop_ex (fun i (t : Int × HP) => t.1 = i ∧ isX o t.2 (plN V i.toNat) ∧ ∀ p j, ¬ (o ≤ p ∧ p ≤ o + 29) → t.2 p j = h p j) 0 (V 0 3 0) _ (by omega) (by omega) ⟨rfl, X, fun p j n => rfl⟩ (fun i t i0 i1 hS => ?_) (fun t hS => ?_)
  · obtain ⟨i', g⟩ := t
    obtain ⟨z1, z2, z3⟩ := hS
    (try dsimp only at z1 z2 z3 ⊢)
    subst z1
    have Ki := plN_ok K i'.toNat (by omega)
    obtain ⟨g1, e1, q1, q2⟩ := X_follow z2 Ki (plN_okP K ⟨i0, i1⟩)
    have ep : g o 3 = V 0 3 0 := by
      rw [z2.p, plN_n (by omega)]
    have e11 : g (o + 27) i' = V 11 i' 0 := by
      rw [z2.pw i0 (by omega), plN_n (by omega)]
    have e12 : g (o + 28) i' = V 12 i' 0 := by
      rw [z2.pk i0 (by omega), plN_n (by omega)]
    have e13 : g (o + 29) i' = V 13 i' 0 := by
      rw [z2.pv i0 (by omega), plN_n (by omega)]
    unfold m_Exam_followPlan_L2b
    rw [ep, if_neg (by omega), if_pos (by omega), if_pos (by omega), if_pos (by omega), e11, e12, e13, e1, plN_s V i0, w32_id (by omega) (by omega)]
    refine ⟨_, rfl, rfl, q1, fun p j n => ?_⟩
    (try dsimp only)
    rw [q2 p j n]
    exact z3 p j n
  · obtain ⟨i', g⟩ := t
    obtain ⟨z1, z2, z3⟩ := hS
    (try dsimp only at z1 z2 z3 ⊢)
    subst z1
    have ep : g o 3 = V 0 3 0 := by
      rw [z2.p, plN_n (by omega)]
    unfold m_Exam_followPlan_L2b
    rw [ep, if_pos (by omega)]
    exact ⟨_, rfl, z2, z3⟩
theorem M_suspects (M : isM h V) (K : okVw V) : ∃ h1, m_Md_suspects 126 h = some (Sc V (V 7 0 0), h1) ∧ frR h h1 := by
  have hSc := Sc_bd K (V 7 0 0)
  have hRk := Rk_inv K (V 7 0 0)
  obtain ⟨h2, e2, r2, f2⟩ := M_orders M K
  have e29 : h2 126 29 = (Rk V (V 7 0 0)).1 := r2.1.1
  refine ⟨h2, ?_, f2⟩
  unfold m_Md_suspects m_Md_suspects_L8
  rw [e2]
  simp only [b1_some]
  refine loop_seq (fun k => (if k < Sc V (V 7 0 0) then k else Sc V (V 7 0 0), k)) 0 (Rk V (V 7 0 0)).1 (by omega) (by omega) ?_ (fun k k0 k1 => ?_) ?_
  · by_cases q : 0 < Sc V (V 7 0 0)
    · rw [if_pos q]
    · rw [if_neg q, show Sc V (V 7 0 0) = 0 by omega]
  · have g3 := r2.2 k k0 k1
    (try dsimp only)
    unfold m_Md_suspects_L8b
    simp only [Int.reduceAdd, bv_some]
    rw [e29, if_neg (by omega), if_pos (by omega), w32_id (x := k + 1) (by omega) (by omega)]
    by_cases q : k < Sc V (V 7 0 0)
    · rw [if_pos q] at g3 ⊢
      rw [if_neg (by rw [g3]; omega), w32_id (by omega) (by omega)]
      by_cases q2 : k + 1 < Sc V (V 7 0 0)
      · rw [if_pos q2]
      · rw [if_neg q2, show Sc V (V 7 0 0) = k + 1 by omega]
    · rw [if_neg q] at g3 ⊢
      rw [if_pos (by rw [g3]), w32_id (by omega) (by omega), if_neg (by omega), Int.add_zero]
  · (try dsimp only)
    unfold m_Md_suspects_L8b
    rw [e29, if_pos (by omega), if_neg (by omega)]
def cpM (r0 r1 m : Int) (h : HP) : HP := fun p j => if p = r1 ∧ 0 ≤ j ∧ j < m then h r0 j else h p j
theorem M_copies {r0 r1 m : Int} (hr : r0 ≠ r1) (hm : 0 ≤ m ∧ m ≤ 200) : m_Md_copies r0 r1 m m h = some (cpM r0 r1 m h) := by
  unfold m_Md_copies m_Md_copies_L2
  refine loop_seq (fun k => (k, cpM r0 r1 k h)) 0 m (by omega) (by omega) ?_ (fun k k0 k1 => ?_) ?_
  · refine pr_eq ?_
    funext p j
    unfold cpM
    rw [if_neg (by omega)]
  · have e : cpM r0 r1 k h r0 k = h r0 k := by
      unfold cpM
      rw [if_neg (fun q => hr q.1)]
    (try dsimp only)
    unfold m_Md_copies_L2b
    rw [if_neg (by omega), if_pos (by omega), if_pos (by omega), e, w32_id (by omega) (by omega)]
    refine in_eq ?_
    funext p j
    unfold cpM upd2
    ((try dsimp only); repeat' split) <;> first | (exfalso; omega) | rfl | (congr 1; omega)
  · (try dsimp only)
    unfold m_Md_copies_L2b
    rw [if_pos (by omega)]
end Ends
theorem A_ends : AA (m_Cb_ends 0) (m_Md_ends 126) := by
  rintro h ⟨V, R⟩
  obtain ⟨X, M, K, I, T, P⟩ := id R
  have hu := K.us
  have hp := K.p
  obtain ⟨W, eW⟩ : ∃ W, W = plN V (V 0 3 0).toNat := ⟨_, rfl⟩
  have KW : okVw W := by
    rw [eW]
    exact plN_ok K _ (by omega)
  have W7 : W 7 0 0 = V 7 0 0 := by
    rw [eW, plN_n (by omega)]
  -- the class
  have hc : m_Exam_copy 61 1 h = some (cpX 61 1 30 h) := X_copy (by omega)
  have X61 : isX 61 (cpX 61 1 30 h) V := isX_cp X
  obtain ⟨g1, e1, x1, f1⟩ := X_followPlan X61 K
  rw [← eW] at x1
  have e84 : g1 84 0 = V 7 0 0 := by
    have := x1.us (c := 0) (by omega) (by omega)
    rw [W7] at this
    exact this
  obtain ⟨g2, e2, x2, f2⟩ := X_order (o := 99) (e := 94) (s := V 7 0 0) x1 KW (by omega) (by omega) hu.1
  have F : frC h g2 := fun p j n => by
    have n2 := n
    unfold scr at n2
    rw [f2 p j (by omega) (by omega), f1 p j (by omega)]
    exact cpX_fr (by omega)
  have R1 : Rl g2 V := Rl_fr F R
  have M1 := R1.2.1
  have e99 : g2 99 1 = Sc W (V 7 0 0) := x2.2
  -- the model
  obtain ⟨c1, ec1⟩ : ∃ c1, c1 = cpM 130 152 64 g2 := ⟨_, rfl⟩
  obtain ⟨c2, ec2⟩ : ∃ c2, c2 = cpM 127 153 8 c1 := ⟨_, rfl⟩
  obtain ⟨c3, ec3⟩ : ∃ c3, c3 = cpM 128 154 8 c2 := ⟨_, rfl⟩
  have k3 : ∀ p j, p ≠ 152 → p ≠ 153 → p ≠ 154 → c3 p j = g2 p j := fun p j n1 n2 n3 => by
    rw [ec3, ec2, ec1]
    unfold cpM
    (try dsimp only)
    rw [if_neg (fun q => n3 q.1), if_neg (fun q => n2 q.1), if_neg (fun q => n1 q.1)]
  have v152 : ∀ j, 0 ≤ j → j < 64 → c3 152 j = g2 130 j := fun j j0 j1 => by
    rw [ec3, ec2, ec1]
    unfold cpM
    (try dsimp only)
    rw [if_neg (by omega), if_neg (by omega), if_pos (by omega)]
  have v153 : ∀ j, 0 ≤ j → j < 8 → c3 153 j = g2 127 j := fun j j0 j1 => by
    rw [ec3, ec2, ec1]
    unfold cpM
    (try dsimp only)
    rw [if_neg (by omega), if_pos (by omega), if_neg (by omega)]
  have v154 : ∀ j, 0 ≤ j → j < 8 → c3 154 j = g2 128 j := fun j j0 j1 => by
    rw [ec3, ec2, ec1]
    unfold cpM
    (try dsimp only)
    rw [if_pos (by omega), if_neg (by omega), if_neg (by omega)]
  have M3 : isM c3 V := isM_sm ⟨fun j hj => k3 _ _ (by omega) (by omega) (by omega), fun p j a b => k3 _ _ (by omega) (by omega) (by omega)⟩ M1
  have key : ∃ r, m_Md_ends_L35 126 (0, c3) = some r ∧ (r.1 = Sc W (V 7 0 0) ∧ frC g2 r.2) := by
    unfold m_Md_ends_L35
    refine loop_ex (fun i (t : Int × HP) => t.1 = i ∧ isM t.2 (plN V i.toNat) ∧ ∀ p j, ¬ ((p = 127 ∨ p = 128) ∧ 0 ≤ j ∧ j < 8) → ¬ (p = 130 ∧ 0 ≤ j ∧ j < 64) → t.2 p j = c3 p j) 0 (V 0 3 0) _ (by omega) (by omega) ⟨rfl, M3, fun p j _ _ => rfl⟩ (fun i t i0 i1 hS => ?_) (fun t hS => ?_)
    · obtain ⟨i', g⟩ := t
      obtain ⟨z1, z2, z3⟩ := hS
      (try dsimp only at z1 z2 z3 ⊢)
      subst z1
      have Ki := plN_ok K i'.toNat (by omega)
      obtain ⟨g', d1, q1, q2⟩ := M_goes z2 Ki (plN_okP K ⟨i0, i1⟩)
      have ep : g 126 16 = V 0 3 0 := by
        rw [z2.p, plN_n (by omega)]
      have e11 : g 137 i' = V 11 i' 0 := by
        rw [z2.pw i0 (by omega), plN_n (by omega)]
      have e12 : g 138 i' = V 12 i' 0 := by
        rw [z2.pk i0 (by omega), plN_n (by omega)]
      have e13 : g 139 i' = V 13 i' 0 := by
        rw [z2.pv i0 (by omega), plN_n (by omega)]
      unfold m_Md_ends_L35b
      simp only [Int.reduceAdd]
      rw [ep, if_neg (by omega), if_pos (by omega), if_pos (by omega), if_pos (by omega), e11, e12, e13, d1, plN_s V i0, w32_id (by omega) (by omega)]
      refine ⟨_, rfl, rfl, q1, fun p j n1 n2 => ?_⟩
      (try dsimp only)
      rw [q2 p j n1 n2]
      exact z3 p j n1 n2
    · obtain ⟨i', g⟩ := t
      obtain ⟨z1, z2, z3⟩ := hS
      (try dsimp only at z1 z2 z3 ⊢)
      subst z1
      rw [← eW] at z2
      have ep : g 126 16 = V 0 3 0 := by
        rw [z2.p, eW, plN_n (by omega)]
      obtain ⟨g', d1, q1⟩ := M_suspects z2 KW
      rw [W7] at d1
      unfold m_Md_ends_L35b m_Md_ends_J71
      simp only [Int.reduceAdd]
      rw [ep, if_pos (by omega), d1, b2_some, M_copies (by omega) (by omega), b1_some, M_copies (by omega) (by omega), b1_some, M_copies (by omega) (by omega), b1_some, b1_some]
      refine ⟨_, rfl, rfl, fun p j n => ?_⟩
      have n2 := n
      unfold scr at n2
      have o152 : ∀ j, g' 152 j = c3 152 j := fun j => by
        rw [q1 152 j (by omega) (by omega)]
        exact z3 152 j (by omega) (by omega)
      have o153 : ∀ j, g' 153 j = c3 153 j := fun j => by
        rw [q1 153 j (by omega) (by omega)]
        exact z3 153 j (by omega) (by omega)
      have o154 : ∀ j, g' 154 j = c3 154 j := fun j => by
        rw [q1 154 j (by omega) (by omega)]
        exact z3 154 j (by omega) (by omega)
      have oth : ¬ ((p = 127 ∨ p = 128) ∧ 0 ≤ j ∧ j < 8) → ¬ (p = 130 ∧ 0 ≤ j ∧ j < 64) → g' p j = g2 p j := fun m1 m2 => by
        rw [q1 p j (by omega) (by omega), z3 p j m1 m2]
        exact k3 p j (by omega) (by omega) (by omega)
      unfold cpM
      (try dsimp only)
      by_cases a1 : p = 128 ∧ 0 ≤ j ∧ j < 8
      · rw [if_pos a1, if_neg (by omega), if_neg (by omega), o154, a1.1]
        exact v154 j a1.2.1 a1.2.2
      · rw [if_neg a1]
        by_cases a2 : p = 127 ∧ 0 ≤ j ∧ j < 8
        · rw [if_pos a2, if_neg (by omega), o153, a2.1]
          exact v153 j a2.2.1 a2.2.2
        · rw [if_neg a2]
          by_cases a3 : p = 130 ∧ 0 ≤ j ∧ j < 64
          · rw [if_pos a3, o152, a3.1]
            exact v152 j a3.2.1 a3.2.2
          · rw [if_neg a3]
            exact oth (by omega) a3
  obtain ⟨⟨a, h2⟩, e3, w1, w2⟩ := key
  (try dsimp only at w1 w2)
  refine ⟨a, g2, h2, ?_, ?_, V, Rl_fr w2 R1⟩
  · unfold m_Cb_ends
    simp only [Int.zero_add]
    rw [hc, b1_some, e1, b1_some, e84, e2, b1_some, e99, w1]
  · unfold m_Md_ends
    simp only [Int.reduceAdd]
    rw [M_copies (by omega) (by omega), b1_some, M_copies (by omega) (by omega), b1_some, M_copies (by omega) (by omega), b1_some, ← ec1, ← ec2, ← ec3]
    exact e3
