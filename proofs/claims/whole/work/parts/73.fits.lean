/-! PURE: suppositions by which it went as seen -/
/-- the same but for the supposition in use -/
def sbV (V W : Vw) : Prop := (∀ f a b, f ≠ 7 → W f a b = V f a b) ∧ ∀ a, a ≠ 0 → W 7 a 0 = V 7 a 0
section Sb
variable {V W : Vw}
theorem sb_sh (H : sbV V W) (i x y a : Int) : sh W i x y a = sh V i x y a := by
  have h2 := fun a b => H.1 2 a b (by omega)
  have h3 := fun a b => H.1 3 a b (by omega)
  have h4 := fun a b => H.1 4 a b (by omega)
  have h0 := fun a b => H.1 0 a b (by omega)
  unfold sh shc
  simp only [h0, h2, h3, h4]
theorem sb_ct (H : sbV V W) (x y s i a : Int) : ct W x y s i a = ct V x y s i a := by
  have h1 := fun a b => H.1 1 a b (by omega)
  unfold ct
  simp only [h1, sb_sh H]
theorem sb_cS (H : sbV V W) (x y s i : Int) : cS W x y s i = cS V x y s i := Sm_congr (fun a _ _ => sb_ct H x y s i a)
theorem sb_cw (H : sbV V W) (x y s i a : Int) : cw W x y s i a = cw V x y s i a := by
  have h4 := fun a b => H.1 4 a b (by omega)
  unfold cw
  simp only [h4, sb_ct H]
theorem sb_cN (H : sbV V W) (x y s i : Int) : cN W x y s i = cN V x y s i := by
  have h1 := fun a b => H.1 1 a b (by omega)
  have h4 := fun a b => H.1 4 a b (by omega)
  unfold cN shrt
  simp only [h1, h4, sb_cS H]
theorem sb_cA (H : sbV V W) (x y s i : Int) : cA W x y s i = cA V x y s i := by
  have h1 := fun a b => H.1 1 a b (by omega)
  have h4 := fun a b => H.1 4 a b (by omega)
  unfold cA shrt
  simp only [h1, h4, sb_cw H]
theorem sb_cB (H : sbV V W) (x y s i : Int) : cB W x y s i = cB V x y s i := by
  have h1 := fun a b => H.1 1 a b (by omega)
  have h4 := fun a b => H.1 4 a b (by omega)
  unfold cB shrt
  simp only [h1, h4, sb_cw H]
theorem sb_WyN (H : sbV V W) (x y s but : Int) (m : Nat) : WyN W x y s but m = WyN V x y s but m := by
  have h4 := fun a b => H.1 4 a b (by omega)
  induction m with
  | zero => rfl
  | succ m ih =>
    unfold WyN inc
    simp only [h4, ih, sb_cA H, sb_cB H, sb_cN H, H.2 4 (by omega), H.2 5 (by omega)]
theorem sb_ByN (H : sbV V W) (x y s but : Int) (m : Nat) : ByN W x y s but m = ByN V x y s but m := by
  have h4 := fun a b => H.1 4 a b (by omega)
  induction m with
  | zero => rfl
  | succ m ih =>
    unfold ByN inc
    simp only [h4, ih, sb_cN H]
theorem sb_lkA (H : sbV V W) (x y i : Int) : lkA W x y i = lkA V x y i := by
  have h1 := fun a b => H.1 1 a b (by omega)
  have h4 := fun a b => H.1 4 a b (by omega)
  unfold lkA
  simp only [h1, h4, H.2 4 (by omega), H.2 5 (by omega)]
theorem sb_Lk (H : sbV V W) (x y but : Int) : Lk W x y but = Lk V x y but := by
  unfold Lk
  rw [H.1 0 _ _ (by omega)]
  refine Sm_congr (fun i _ _ => ?_)
  unfold lkb
  rw [sb_lkA H]
theorem sb_ov (H : sbV V W) (x y s but : Int) : ov W x y s but = ov V x y s but := by
  unfold ov Wy
  rw [sb_Lk H, sb_WyN H, H.1 0 _ _ (by omega)]
theorem sb_bl (H : sbV V W) (x y s but : Int) : bl W x y s but = bl V x y s but := by
  unfold bl By
  rw [sb_ByN H, H.1 0 _ _ (by omega)]
theorem sb_qo (H : sbV V W) (s : Int) (p : Int × Int) : qo W s p = qo V s p := by
  unfold qo
  simp only [sb_ov H, sb_bl H]
theorem sb_qb (H : sbV V W) (s : Int) (p : Int × Int) : qb W s p = qb V s p := by
  unfold qb
  simp only [sb_ov H, sb_bl H]
theorem sb_cq (H : sbV V W) (s : Int) (p q : Int × Int) : cq W s p q = cq V s p q := by
  unfold cq
  simp only [sb_qo H, sb_qb H]
theorem sb_pos (H : sbV V W) (s : Int) (p : Int × Int) (G : PG) (n : Int) : pos W s p G n = pos V s p G n := by
  unfold pos
  generalize n.toNat = k
  induction k with
  | zero => rfl
  | succ k ih =>
    unfold posN
    simp only [ih, sb_cq H]
theorem sb_ins (H : sbV V W) (s : Int) (p : Int × Int) (G : PG) (n : Int) : insG W s p G n = insG V s p G n := by
  unfold insG
  simp only [sb_pos H]
theorem sb_rkS (H : sbV V W) (s x y : Int) (st : RS) : rkS W s x y st = rkS V s x y st := by
  have h5 := fun a b => H.1 5 a b (by omega)
  have h6 := fun a b => H.1 6 a b (by omega)
  unfold rkS rch nearP
  simp only [h5, h6, H.2 3 (by omega), sb_ins H]
theorem sb_rkY (H : sbV V W) (s x : Int) (st : RS) (k : Nat) : rkY W s x st k = rkY V s x st k := by
  induction k with
  | zero => rfl
  | succ k ih =>
    unfold rkY
    rw [ih, sb_rkS H]
theorem sb_Rk (H : sbV V W) (s : Int) : Rk W s = Rk V s := by
  unfold Rk
  rw [H.1 0 _ _ (by omega)]
  generalize (V 0 1 0).toNat = k
  induction k with
  | zero => rfl
  | succ k ih =>
    unfold rkX
    rw [ih, sb_rkY H, H.1 0 _ _ (by omega)]
theorem sb_hold (H : sbV V W) (s n : Int) (G : PG) (k : Int) : hold W s n G k ↔ hold V s n G k := by
  unfold hold low
  simp only [sb_qo H, sb_qb H, H.2 1 (by omega), H.2 2 (by omega)]
theorem sb_cu (H : sbV V W) (s n : Int) (G : PG) (k : Nat) : cuN W s n G k = cuN V s n G k := by
  induction k with
  | zero => rfl
  | succ k ih =>
    unfold cuN
    rw [ih]
    by_cases c : cuN V s n G k = k ∧ hold V s n G k
    · rw [if_pos c, if_pos ⟨c.1, (sb_hold H s n G k).2 c.2⟩]
    · rw [if_neg c, if_neg (fun q => c ⟨q.1, (sb_hold H s n G k).1 q.2⟩)]
theorem sb_cd (H : sbV V W) (s n : Int) (G : PG) (k : Nat) : cdN W s n G k = cdN V s n G k := by
  induction k with
  | zero => rfl
  | succ k ih =>
    unfold cdN
    rw [ih]
    by_cases c : hold V s n G k
    · rw [if_pos c, if_pos ((sb_hold H s n G k).2 c)]
    · rw [if_neg c, if_neg (fun q => c ((sb_hold H s n G k).1 q))]
theorem sb_Sc (H : sbV V W) (s : Int) : Sc W s = Sc V s := by
  unfold Sc
  rw [sb_Rk H, sb_cd H, sb_cu H, H.2 1 (by omega)]
theorem sb_fd (H : sbV V W) (s x y : Int) : fdR W s x y = fdR V s x y := by
  unfold fdR
  rw [sb_Rk H]
end Sb
/-- all that is seen would be so -/
def agr (V : Vw) (s : Int) : Prop := ∀ i, 0 ≤ i → i < V 0 2 0 → ((0 ≤ fdR V s (V 8 i 0) (V 9 i 0) ∧ fdR V s (V 8 i 0) (V 9 i 0) < Sc V s) ↔ V 10 i 0 = 1)
noncomputable def agv (V : Vw) (s : Int) : Int := @ite Int (agr V s) (Classical.propDecidable _) 1 0
theorem agv_1 {V : Vw} {s : Int} (h : agr V s) : agv V s = 1 := by
  unfold agv
  rw [if_pos h]
theorem agv_0 {V : Vw} {s : Int} (h : ¬ agr V s) : agv V s = 0 := by
  unfold agv
  rw [if_neg h]
theorem agv_b (V : Vw) (s : Int) : agv V s = 1 ∨ agv V s = 0 := by
  by_cases h : agr V s
  · exact Or.inl (agv_1 h)
  · exact Or.inr (agv_0 h)
theorem sb_agv {V W : Vw} (H : sbV V W) (s : Int) : agv W s = agv V s := by
  have e : agr W s ↔ agr V s := by
    unfold agr
    simp only [sb_fd H, sb_Sc H, H.1 0 _ _ (show (0 : Int) ≠ 7 by omega), H.1 8 _ _ (show (8 : Int) ≠ 7 by omega), H.1 9 _ _ (show (9 : Int) ≠ 7 by omega), H.1 10 _ _ (show (10 : Int) ≠ 7 by omega)]
  by_cases c : agr V s
  · rw [agv_1 c, agv_1 (e.2 c)]
  · rw [agv_0 c, agv_0 (fun q => c (e.1 q))]
theorem okVw.sb10 {V : Vw} (K : okVw V) (k : Int) (h1 : 0 ≤ k) (h2 : k < 5) : b01 (V 10 k 0) := K.2.2.2.2.2.2.2.2.2.2.2.2.2.2.2.2.2 k h1 h2
theorem X_agrees {V : Vw} (K : okVw V) {h : HP} (X : isX 1 h V) {s : Int} (hR : XRk V 99 s h) : m_Ranking_agrees 99 1 h = some (agv V s) := by
  have hs := K.s
  have e991 : h 99 1 = Sc V s := hR.2
  unfold m_Ranking_agrees m_Ranking_agrees_L2
  suffices key : ∃ r, loopO (fun s : Int => m_Ranking_agrees_L2b 99 1 h s) FUEL 0 = some r ∧ r = agv V s by
    obtain ⟨r, e, q⟩ := key
    rw [e, q]
  refine loop_br (fun k (t : Int) => t = k ∧ ∀ i, 0 ≤ i → i < k → ((0 ≤ fdR V s (V 8 i 0) (V 9 i 0) ∧ fdR V s (V 8 i 0) (V 9 i 0) < Sc V s) ↔ V 10 i 0 = 1)) 0 (V 0 2 0) _ (by omega) (by omega) ⟨rfl, fun i a b => by omega⟩ (fun k t k0 k1 hS => ?_) (fun t hS => ?_)
  · obtain ⟨z1, z2⟩ := hS
    subst z1
    have hb := K.sb10 t k0 (by omega)
    have e24 : h 25 t = V 8 t 0 := X.sx k0 (by omega)
    have e25 : h 26 t = V 9 t 0 := X.sy k0 (by omega)
    have e26 : h 27 t = V 10 t 0 := X.si k0 (by omega)
    have fin : ∀ u : Int, (u = if 0 ≤ fdR V s (V 8 t 0) (V 9 t 0) ∧ fdR V s (V 8 t 0) (V 9 t 0) < Sc V s then 1 else 0) → (∃ t_1, m_Ranking_agrees_J44 99 1 t u h = some (.inl t_1) ∧ t_1 = t + 1 ∧ ∀ i, 0 ≤ i → i < t + 1 → ((0 ≤ fdR V s (V 8 i 0) (V 9 i 0) ∧ fdR V s (V 8 i 0) (V 9 i 0) < Sc V s) ↔ V 10 i 0 = 1)) ∨ ∃ x, m_Ranking_agrees_J44 99 1 t u h = some (.inr x) ∧ x = agv V s := fun u hu => by
      unfold m_Ranking_agrees_J44
      simp only [Int.reduceAdd]
      rw [if_pos (by omega), w32_id (by omega) (by omega)]
      by_cases c : u = V 10 t 0
      · rw [if_pos (by rw [e26]; exact c)]
        refine Or.inl ⟨_, rfl, rfl, fun i a b => ?_⟩
        by_cases e : i = t
        · rw [e]
          by_cases d : 0 ≤ fdR V s (V 8 t 0) (V 9 t 0) ∧ fdR V s (V 8 t 0) (V 9 t 0) < Sc V s
          · rw [if_pos d] at hu
            exact ⟨fun _ => by omega, fun _ => d⟩
          · rw [if_neg d] at hu
            exact ⟨fun q => absurd q d, fun q => by omega⟩
        · exact z2 i a (by omega)
      · rw [if_neg (by rw [e26]; exact c)]
        refine Or.inr ⟨0, rfl, (agv_0 (fun q => c ?_)).symm⟩
        have := q t k0 k1
        by_cases d : 0 ≤ fdR V s (V 8 t 0) (V 9 t 0) ∧ fdR V s (V 8 t 0) (V 9 t 0) < Sc V s
        · rw [if_pos d] at hu
          rw [hu, this.1 d]
        · rw [if_neg d] at hu
          rcases hb with w | w
          · rw [hu, w]
          · exact absurd (this.2 w) d
    unfold m_Ranking_agrees_L2b m_Ranking_agrees_J43
    simp only [Int.reduceAdd]
    rw [X.s, if_neg (by omega), if_pos (by omega), if_pos (by omega), e24, e25, X_placeOf K hR, e991]
    simp only [b1_some]
    by_cases c1 : fdR V s (V 8 t 0) (V 9 t 0) < 0
    · rw [if_pos c1]
      exact fin 0 (by rw [if_neg (by omega)])
    · rw [if_neg c1]
      by_cases c2 : Sc V s ≤ fdR V s (V 8 t 0) (V 9 t 0)
      · rw [if_pos c2]
        exact fin 0 (by rw [if_neg (by omega)])
      · rw [if_neg c2]
        exact fin 1 (by rw [if_pos (by omega)])
  · obtain ⟨z1, z2⟩ := hS
    unfold m_Ranking_agrees_L2b
    rw [X.s, if_pos (by omega)]
    exact ⟨1, rfl, (agv_1 z2).symm⟩
theorem M_allSeen {V : Vw} (K : okVw V) {h : HP} (M : isM h V) : ∃ h1, m_Md_isAllSeen 126 h = some (agv V (V 7 0 0), h1) ∧ frR h h1 := by
  have hs := K.s
  have hi := Rk_inv K (V 7 0 0)
  obtain ⟨g, e, r, f⟩ := M_orders M K
  have Mg : isM g V := isM_sm f.sm M
  unfold m_Md_isAllSeen m_Md_isAllSeen_L6
  rw [e]
  simp only [b1_some]
  suffices key : ∃ u, loopO (fun s : Int => m_Md_isAllSeen_L6b 126 g s) FUEL 0 = some u ∧ u = (agv V (V 7 0 0), g) by
    obtain ⟨u, e, q⟩ := key
    rw [e, q]
    exact ⟨g, rfl, f⟩
  obtain ⟨s, hss⟩ : ∃ s, s = V 7 0 0 := ⟨_, rfl⟩
  rw [← hss] at r hi ⊢
  refine loop_br (fun k (t : Int) => t = k ∧ ∀ i, 0 ≤ i → i < k → ((0 ≤ fdR V s (V 8 i 0) (V 9 i 0) ∧ fdR V s (V 8 i 0) (V 9 i 0) < Sc V s) ↔ V 10 i 0 = 1)) 0 (V 0 2 0) _ (by omega) (by omega) ⟨rfl, fun i a b => by omega⟩ (fun k t k0 k1 hS => ?_) (fun t hS => ?_)
  · obtain ⟨z1, z2⟩ := hS
    subst z1
    have hb := K.sb10 t k0 (by omega)
    have e24 : g 134 t = V 8 t 0 := Mg.sx k0 (by omega)
    have e25 : g 135 t = V 9 t 0 := Mg.sy k0 (by omega)
    have e26 : g 136 t = V 10 t 0 := Mg.si k0 (by omega)
    have fin : ∀ u : Int, (u = if 0 ≤ fdR V s (V 8 t 0) (V 9 t 0) ∧ fdR V s (V 8 t 0) (V 9 t 0) < Sc V s then 1 else 0) → (∃ t_1, m_Md_isAllSeen_J49 126 t u g = some (.inl t_1) ∧ t_1 = t + 1 ∧ ∀ i, 0 ≤ i → i < t + 1 → ((0 ≤ fdR V s (V 8 i 0) (V 9 i 0) ∧ fdR V s (V 8 i 0) (V 9 i 0) < Sc V s) ↔ V 10 i 0 = 1)) ∨ ∃ x, m_Md_isAllSeen_J49 126 t u g = some (.inr x) ∧ x = (agv V s, g) := fun u hu => by
      have e3 : m_Md_isAllSeen_J49 126 t u g = if u = V 10 t 0 then some (.inl (t + 1)) else some (.inr (0, g)) := by
        unfold m_Md_isAllSeen_J49 m_Md_isAllSeen_J64
        simp only [Int.reduceAdd]
        rw [if_pos (by omega), w32_id (by omega) (by omega)]
        rcases hb with w | w
        · rw [if_neg (by rw [e26]; omega), w]
        · rw [if_pos (by rw [e26]; exact w), w]
      rw [e3]
      by_cases c : u = V 10 t 0
      · rw [if_pos c]
        refine Or.inl ⟨_, rfl, rfl, fun i a b => ?_⟩
        by_cases e : i = t
        · rw [e]
          by_cases d : 0 ≤ fdR V s (V 8 t 0) (V 9 t 0) ∧ fdR V s (V 8 t 0) (V 9 t 0) < Sc V s
          · rw [if_pos d] at hu
            exact ⟨fun _ => by omega, fun _ => d⟩
          · rw [if_neg d] at hu
            exact ⟨fun q => absurd q d, fun q => by omega⟩
        · exact z2 i a (by omega)
      · rw [if_neg c]
        refine Or.inr ⟨(0, g), rfl, ?_⟩
        rw [agv_0 (fun q => c ?_)]
        have := q t k0 k1
        by_cases d : 0 ≤ fdR V s (V 8 t 0) (V 9 t 0) ∧ fdR V s (V 8 t 0) (V 9 t 0) < Sc V s
        · rw [if_pos d] at hu
          rw [hu, this.1 d]
        · rw [if_neg d] at hu
          rcases hb with w | w
          · rw [hu, w]
          · exact absurd (this.2 w) d
    have hf := fdR_bd K s (V 8 t 0) (V 9 t 0)
    unfold m_Md_isAllSeen_L6b m_Md_isAllSeen_J48
    simp only [Int.reduceAdd]
    rw [Mg.s, if_neg (by omega), if_pos (by omega), if_pos (by omega), e24, e25, M_ranked K r]
    simp only [b1_some]
    by_cases c1 : fdR V s (V 8 t 0) (V 9 t 0) < 0
    · rw [if_pos c1, if_pos (by omega)]
      exact fin 0 (by rw [if_neg (by omega)])
    · have e148 := r.2 (fdR V s (V 8 t 0) (V 9 t 0)) (by omega) (by omega)
      simp only [if_neg c1]
      rw [if_pos (by omega)]
      by_cases c2 : fdR V s (V 8 t 0) (V 9 t 0) < Sc V s
      · rw [if_pos c2] at e148
        rw [if_neg (by rw [e148]; omega)]
        exact fin 1 (by rw [if_pos (by omega)])
      · rw [if_neg c2] at e148
        rw [if_pos (by rw [e148])]
        exact fin 0 (by rw [if_neg (by omega)])
  · obtain ⟨z1, z2⟩ := hS
    unfold m_Md_isAllSeen_L6b
    rw [Mg.s, if_pos (by omega)]
    exact ⟨_, rfl, by rw [agv_1 z2]⟩
/-- how many suppositions from 3 down fit, the least -/
noncomputable def ftN (V : Vw) : Nat → Int × Int
  | 0 => (0, -5)
  | k + 1 => if agv V (3 - (k : Int)) = 0 then ftN V k else ((ftN V k).1 + 1, 3 - (k : Int))
theorem ftN_s (V : Vw) {k : Int} (hk : 0 ≤ k) : ftN V (k + 1).toNat = if agv V (3 - k) = 0 then ftN V k.toNat else ((ftN V k.toNat).1 + 1, 3 - k) := by
  rw [show (k + 1).toNat = k.toNat + 1 by omega]
  show (if agv V (3 - (k.toNat : Int)) = 0 then ftN V k.toNat else ((ftN V k.toNat).1 + 1, 3 - (k.toNat : Int))) = _
  rw [show ((k.toNat : Nat) : Int) = k by omega]
theorem ftN_bd (V : Vw) (k : Nat) : 0 ≤ (ftN V k).1 ∧ (ftN V k).1 ≤ k := by
  induction k with
  | zero => exact ⟨Int.le_refl _, Int.le_refl _⟩
  | succ k ih =>
    unfold ftN
    split
    · omega
    · (try dsimp only)
      omega
theorem X_fits {V : Vw} (K : okVw V) {h : HP} (X : isX 1 h V) (w : Int) : ∃ r, m_Cb_fits_L19 0 w (0, -5, 3, h) = some r ∧ (r.1 = (if w = 0 then (ftN V 4).1 else (ftN V 4).2) ∧ frC h r.2) := by
  unfold m_Cb_fits_L19
  refine loop_ex (fun k (t : Int × Int × Int × HP) => t.1 = (ftN V k.toNat).1 ∧ t.2.1 = (ftN V k.toNat).2 ∧ t.2.2.1 = 3 - k ∧ frC h t.2.2.2) 0 4 _ (by omega) (by omega) ⟨rfl, rfl, rfl, frC.rf h⟩ (fun k t k0 k1 hS => ?_) (fun t hS => ?_)
  · obtain ⟨f, l, b, g⟩ := t
    obtain ⟨z1, z2, z3, z4⟩ := hS
    (try dsimp only at z1 z2 z3 z4 ⊢)
    have Xg : isX 1 g V := isX_fr z4 (Or.inl rfl) X
    obtain ⟨g1, e1, r1, f1⟩ := X_order (o := 99) (e := 94) (s := b) Xg K (by omega) (by omega) (by omega)
    have F1 : frC h g1 := z4.tr (frK_frC f1)
    have hb := ftN_bd V k.toNat
    unfold m_Cb_fits_L19b
    simp only [Int.zero_add]
    rw [if_neg (by omega), e1]
    simp only [b1_some]
    rw [X_agrees K (isX_fr F1 (Or.inl rfl) X) r1, w32_id (x := b + -1) (by omega) (by omega), ftN_s V k0, ← z3]
    simp only [b1_some]
    by_cases q : agv V b = 0
    · rw [if_pos q, if_pos q]
      exact ⟨_, rfl, z1, z2, by (try dsimp only); omega, F1⟩
    · rw [if_neg q, if_neg q, z1, w32_id (by omega) (by omega)]
      exact ⟨_, rfl, rfl, rfl, by (try dsimp only); omega, F1⟩
  · obtain ⟨f, l, b, g⟩ := t
    obtain ⟨z1, z2, z3, z4⟩ := hS
    (try dsimp only at z1 z2 z3 z4 ⊢)
    rw [show (4 : Int).toNat = 4 from rfl] at z1 z2
    unfold m_Cb_fits_L19b m_Cb_fits_J67
    rw [if_pos (by omega), z1, z2]
    by_cases q : w = 0
    · rw [if_pos q]
      exact ⟨_, rfl, by rw [if_pos q], z4⟩
    · rw [if_neg q]
      exact ⟨_, rfl, by rw [if_neg q], z4⟩
theorem M_fits {V : Vw} (K : okVw V) {h1 : HP} (M1 : isM h1 V) (w : Int) : ∃ r, m_Md_fits_L28 126 w (V 7 0 0) (0, -5, 3, h1) = some r ∧ (r.1 = (if w = 0 then (ftN V 4).1 else (ftN V 4).2) ∧ frC h1 r.2) := by
  unfold m_Md_fits_L28
  refine loop_ex (fun k (t : Int × Int × Int × HP) => t.1 = (ftN V k.toNat).1 ∧ t.2.1 = (ftN V k.toNat).2 ∧ t.2.2.1 = 3 - k ∧ ∀ p j, ¬ scr p j → ¬ (p = 133 ∧ j = 0) → t.2.2.2 p j = h1 p j) 0 4 _ (by omega) (by omega) ⟨rfl, rfl, rfl, fun p j a b => rfl⟩ (fun k t k0 k1 hS => ?_) (fun t hS => ?_)
  · obtain ⟨f, l, b, g⟩ := t
    obtain ⟨z1, z2, z3, z4⟩ := hS
    (try dsimp only at z1 z2 z3 z4 ⊢)
    have Mb : isM (upd2 h1 133 0 b) (upV V 7 0 0 b) := isM_put b (by unfold atM; omega) M1
    have Mg : isM (upd2 g 133 0 b) (upV V 7 0 0 b) := isM_sm ⟨fun j hj => by
      rw [upd2_np _ (by omega), upd2_np _ (by omega)]
      exact z4 126 j (by unfold scr; omega) (by omega), fun p j a b => by
      unfold upd2
      by_cases q : p = 133 ∧ j = 0
      · rw [if_pos q, if_pos q]
      · rw [if_neg q, if_neg q]
        exact z4 p j (by unfold scr; omega) q⟩ Mb
    have Kb : okVw (upV V 7 0 0 b) := okVw_put (by unfold rgV; omega) K
    have H : sbV V (upV V 7 0 0 b) := ⟨fun f a c hf => by unfold upV; rw [if_neg (by omega)], fun a ha => by unfold upV; rw [if_neg (by omega)]⟩
    obtain ⟨g1, e1, f1⟩ := M_allSeen Kb Mg
    have e7 : upV V 7 0 0 b 7 0 0 = b := by unfold upV; rw [if_pos ⟨rfl, rfl, rfl⟩]
    rw [e7, sb_agv H] at e1
    have F1 : ∀ p j, ¬ scr p j → ¬ (p = 133 ∧ j = 0) → g1 p j = h1 p j := fun p j n1 n2 => by
      have n3 := n1
      unfold scr at n3
      rw [f1 p j (by omega) (by omega)]
      unfold upd2
      rw [if_neg n2]
      exact z4 p j n1 n2
    have hb := ftN_bd V k.toNat
    unfold m_Md_fits_L28b
    simp only [Int.reduceAdd, bv_some]
    rw [if_neg (by omega), e1, w32_id (x := b + -1) (by omega) (by omega), ftN_s V k0, ← z3]
    simp only [b2_some]
    by_cases q : agv V b = 0
    · rw [if_pos q, if_pos q]
      exact ⟨_, rfl, z1, z2, by (try dsimp only); omega, F1⟩
    · rw [if_neg q, if_neg q, z1, w32_id (by omega) (by omega)]
      exact ⟨_, rfl, rfl, rfl, by (try dsimp only); omega, F1⟩
  · obtain ⟨f, l, b, g⟩ := t
    obtain ⟨z1, z2, z3, z4⟩ := hS
    (try dsimp only at z1 z2 z3 z4 ⊢)
    have F : frC h1 (upd2 g 133 0 (V 7 0 0)) := fun p j n => by
      unfold upd2
      by_cases q : p = 133 ∧ j = 0
      · rw [if_pos q, q.1, q.2]
        exact (M1.us (c := 0) (by omega) (by omega)).symm
      · rw [if_neg q]
        exact z4 p j n q
    rw [show (4 : Int).toNat = 4 from rfl] at z1 z2
    unfold m_Md_fits_L28b m_Md_fits_J61
    simp only [Int.reduceAdd, bv_some]
    rw [if_pos (by omega), z1, z2]
    by_cases q : w = 0
    · rw [if_pos q]
      exact ⟨_, rfl, by rw [if_pos q], F⟩
    · rw [if_neg q]
      exact ⟨_, rfl, by rw [if_neg q], F⟩
theorem A_fits (w : Int) : AA (m_Cb_fits 0 w) (m_Md_fits 126 w) := by
  rintro h ⟨V, R⟩
  obtain ⟨X, M, K, I, T, P⟩ := id R
  by_cases c : 0 ≤ w ∧ w ≤ 1
  · obtain ⟨⟨a, h1⟩, e1, w1, f1⟩ := X_fits K X w
    (try dsimp only at w1 f1)
    have R1 : Rl h1 V := Rl_fr f1 R
    have M1 := R1.2.1
    obtain ⟨⟨a', h2⟩, e2, w2, f2⟩ := M_fits K M1 w
    (try dsimp only at w2 f2)
    have e7 : h1 (126 + 7) 0 = V 7 0 0 := M1.us (c := 0) (by omega) (by omega)
    refine ⟨a, h1, h2, ?_, ?_, V, Rl_fr f2 R1⟩
    · unfold m_Cb_fits
      by_cases q : w = 0
      · rw [if_pos q, e1]
      · rw [if_neg q, if_pos (by omega), e1]
    · unfold m_Md_fits
      rw [P_in, if_pos c, b1_some, if_neg (by omega), e7, bv_some, e2, w1, w2]
  · refine ⟨-1, h, h, ?_, ?_, V, R⟩
    · unfold m_Cb_fits
      rw [if_neg (by omega), if_neg (by omega)]
    · unfold m_Md_fits
      rw [P_in, if_neg c, b1_some, if_pos rfl]
