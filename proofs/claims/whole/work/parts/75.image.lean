/-! PURE: the image -/
def srcM (h : HP) (j : Int) : Int := if j < 4 then (if j = 0 then h 126 0 else if j = 1 then h 126 1 else if j = 2 then h 126 15 else h 126 16) else if j < 12 then h 127 (j - 4) else if j < 20 then h 128 (j - 12) else if j < 52 then h 129 (j - 20) else if j < 116 then h 130 (j - 52) else if j < 124 then h 131 (j - 116) else if j < 132 then h 132 (j - 124) else if j < 138 then h 133 (j - 132) else if j < 143 then h 134 (j - 138) else if j < 148 then h 135 (j - 143) else if j < 153 then h 136 (j - 148) else if j < 161 then h 137 (j - 153) else if j < 169 then h 138 (j - 161) else h 139 (j - 169)
/-- taken as far as s -/
def ImS (h : HP) (s : Int) (g : HP) : Prop := (∀ j, 0 ≤ j → j < s → g 141 j = srcM h j) ∧ g 126 21 = s ∧ g 126 22 = 1 ∧ ∀ p j, p ≠ 141 → ¬ (p = 126 ∧ (j = 21 ∨ j = 22)) → g p j = h p j
theorem Im_pass {h g : HP} {s v : Int} (I : ImS h s g) (hs : 0 ≤ s ∧ s < 200) (hv : srcM h s = v) : ∃ g1, m_Md_passes 126 v g = some (v, g1) ∧ ImS h (s + 1) g1 := by
  obtain ⟨i1, i2, i3, i4⟩ := I
  unfold m_Md_passes m_Md_passes_J20
  simp only [Int.reduceAdd, bv_some]
  rw [i3, if_neg (by omega), i2, if_pos (by omega)]
  refine ⟨_, rfl, fun j j0 j1 => ?_, ?_, ?_, fun p j n1 n2 => ?_⟩
  · rw [upd2_np _ (by omega)]
    by_cases e : j = s
    · rw [e, upd2_eq]
      exact hv.symm
    · rw [upd2_nj _ e]
      exact i1 j j0 (by omega)
  · rw [upd2_eq, upd2_np _ (by omega), i2, w32_id (by omega) (by omega)]
  · rw [upd2_nj _ (by omega), upd2_np _ (by omega)]
    exact i3
  · have e : upd2 (upd2 g 141 s v) 126 21 (w32 (upd2 g 141 s v 126 21 + 1)) p j = upd2 g 141 s v p j := by
      unfold upd2
      rw [if_neg (by omega)]
    rw [e, upd2_np _ n1]
    exact i4 p j n1 n2
theorem Im_fld {h g : HP} {s f : Int} (I : ImS h s g) (hs : 0 ≤ s ∧ s < 200) (hv : srcM h s = h 126 f) (hf : f ≠ 21 ∧ f ≠ 22) : ∃ g1, m_Md_passes 126 (g 126 f) g = some (g 126 f, g1) ∧ ImS h (s + 1) (upd2 g1 126 f (g 126 f)) := by
  have ef : g 126 f = h 126 f := I.2.2.2 126 f (by omega) (by omega)
  obtain ⟨g1, e, i1, i2, i3, i4⟩ := Im_pass I hs (hv.trans ef.symm)
  refine ⟨g1, e, fun j j0 j1 => ?_, ?_, ?_, fun p j n1 n2 => ?_⟩
  · rw [upd2_np _ (by omega)]
    exact i1 j j0 j1
  · rw [upd2_nj _ (by omega)]
    exact i2
  · rw [upd2_nj _ (by omega)]
    exact i3
  · by_cases c : p = 126 ∧ j = f
    · rw [c.1, c.2, upd2_eq]
      exact ef
    · have : upd2 g1 126 f (g 126 f) p j = g1 p j := by
        unfold upd2
        rw [if_neg c]
      rw [this]
      exact i4 p j n1 n2
theorem Im_row {h g : HP} {s r m : Int} (I : ImS h s g) (hs : 0 ≤ s ∧ 0 ≤ m ∧ s + m ≤ 200) (hr : 127 ≤ r ∧ r ≤ 139) (hv : ∀ k, 0 ≤ k → k < m → srcM h (s + k) = h r k) : ∃ g1, m_Md_passesRow 126 r m g = some g1 ∧ ImS h (s + m) g1 := by
  unfold m_Md_passesRow m_Md_passesRow_L2
  refine loop_ex (fun k (t : Int × HP) => t.1 = k ∧ ImS h (s + k) t.2) 0 m _ (by omega) (by omega) ⟨rfl, by rw [Int.add_zero]; exact I⟩ (fun k t k0 k1 hS => ?_) (fun t hS => ?_)
  · obtain ⟨k', g0⟩ := t
    obtain ⟨z1, z2⟩ := hS
    (try dsimp only at z1 z2 ⊢)
    subst z1
    have er : g0 r k' = h r k' := z2.2.2.2 r k' (by omega) (by omega)
    obtain ⟨g1, e, i1, i2, i3, i4⟩ := Im_pass z2 (by omega) ((hv k' k0 k1).trans er.symm)
    unfold m_Md_passesRow_L2b
    rw [if_neg (by omega), if_pos (by omega), e, w32_id (by omega) (by omega)]
    simp only [b2_some, bv_some]
    rw [if_pos (by omega)]
    refine ⟨_, rfl, rfl, fun j j0 j1 => ?_, ?_, ?_, fun p j n1 n2 => ?_⟩
    · (try dsimp only)
      rw [upd2_np _ (by omega)]
      exact i1 j j0 (by omega)
    · (try dsimp only)
      rw [upd2_np _ (by omega), i2]
      omega
    · (try dsimp only)
      rw [upd2_np _ (by omega)]
      exact i3
    · (try dsimp only)
      by_cases c : p = r ∧ j = k'
      · rw [c.1, c.2, upd2_eq]
        exact er
      · have : upd2 g1 r k' (g0 r k') p j = g1 p j := by
          unfold upd2
          rw [if_neg c]
        rw [this]
        exact i4 p j n1 n2
  · obtain ⟨k', g0⟩ := t
    obtain ⟨z1, z2⟩ := hS
    (try dsimp only at z1 z2 ⊢)
    subst z1
    unfold m_Md_passesRow_L2b
    rw [if_pos (by omega)]
    exact ⟨_, rfl, z2⟩
theorem M_image {h : HP} : ∃ h1, m_Md_image 126 h = some (h 126 1, h1) ∧ (∀ j, 0 ≤ j → j < 177 → h1 141 j = srcM h j) ∧ h1 126 20 = 1 ∧ ∀ p j, p ≠ 141 → ¬ (p = 126 ∧ (j = 20 ∨ j = 21 ∨ j = 22)) → h1 p j = h p j := by
  have sh' : ∀ j, srcM (upd2 h 126 20 1) j = srcM h j := fun j => by
    have u : ∀ p i, (p ≠ 126 ∨ i ≠ 20) → upd2 h 126 20 1 p i = h p i := fun p i n => by
      unfold upd2
      rw [if_neg (by omega)]
    unfold srcM
    rw [u 126 0 (by omega), u 126 1 (by omega), u 126 15 (by omega), u 126 16 (by omega), u 127 _ (by omega), u 128 _ (by omega), u 129 _ (by omega), u 130 _ (by omega), u 131 _ (by omega), u 132 _ (by omega), u 133 _ (by omega), u 134 _ (by omega), u 135 _ (by omega), u 136 _ (by omega), u 137 _ (by omega), u 138 _ (by omega), u 139 _ (by omega)]
  have I0 : ImS (upd2 h 126 20 1) 0 (upd2 (upd2 (upd2 h 126 20 1) 126 22 1) 126 21 0) := by
    refine ⟨fun j a b => by omega, upd2_eq _ _ _ _, ?_, fun p j n1 n2 => ?_⟩
    · rw [upd2_nj _ (by omega), upd2_eq]
    · unfold upd2
      (try dsimp only)
      have c1 : ¬ (p = 126 ∧ j = 21) := by omega
      have c2 : ¬ (p = 126 ∧ j = 22) := by omega
      rw [if_neg c1, if_neg c2]
  obtain ⟨a0, e0, i0⟩ := Im_fld (f := 0) I0 (by omega) (by rfl) (by omega)
  obtain ⟨a1, e1, i1⟩ := Im_fld (f := 1) i0 (by omega) (by rfl) (by omega)
  obtain ⟨a2, e2, i2⟩ := Im_fld (f := 15) i1 (by omega) (by rfl) (by omega)
  obtain ⟨a3, e3, i3⟩ := Im_fld (f := 16) i2 (by omega) (by rfl) (by omega)
  have rr : ∀ (g : HP) (k : Int), (∀ i, 0 ≤ i → i < 8 → srcM g (4 + i) = g 127 i) ∧ (∀ i, 0 ≤ i → i < 8 → srcM g (12 + i) = g 128 i) ∧ (∀ i, 0 ≤ i → i < 32 → srcM g (20 + i) = g 129 i) ∧ (∀ i, 0 ≤ i → i < 64 → srcM g (52 + i) = g 130 i) ∧ (∀ i, 0 ≤ i → i < 8 → srcM g (116 + i) = g 131 i) ∧ (∀ i, 0 ≤ i → i < 8 → srcM g (124 + i) = g 132 i) ∧ (∀ i, 0 ≤ i → i < 6 → srcM g (132 + i) = g 133 i) ∧ (∀ i, 0 ≤ i → i < 5 → srcM g (138 + i) = g 134 i) ∧ (∀ i, 0 ≤ i → i < 5 → srcM g (143 + i) = g 135 i) ∧ (∀ i, 0 ≤ i → i < 5 → srcM g (148 + i) = g 136 i) ∧ (∀ i, 0 ≤ i → i < 8 → srcM g (153 + i) = g 137 i) ∧ (∀ i, 0 ≤ i → i < 8 → srcM g (161 + i) = g 138 i) ∧ (∀ i, 0 ≤ i → i < 8 → srcM g (169 + i) = g 139 i) := fun g _ => by
    unfold srcM
    refine ⟨fun i a b => ?_, fun i a b => ?_, fun i a b => ?_, fun i a b => ?_, fun i a b => ?_, fun i a b => ?_, fun i a b => ?_, fun i a b => ?_, fun i a b => ?_, fun i a b => ?_, fun i a b => ?_, fun i a b => ?_, fun i a b => ?_⟩ <;> simp (disch := omega) only [if_neg, if_pos] <;> congr 1 <;> omega
  have q := rr (upd2 h 126 20 1) 0
  obtain ⟨b1, f1, j1⟩ := Im_row (r := 127) (m := 8) i3 (by omega) (by omega) q.1
  obtain ⟨b2, f2, j2⟩ := Im_row (r := 128) (m := 8) j1 (by omega) (by omega) q.2.1
  obtain ⟨b3, f3, j3⟩ := Im_row (r := 129) (m := 32) j2 (by omega) (by omega) q.2.2.1
  obtain ⟨b4, f4, j4⟩ := Im_row (r := 130) (m := 64) j3 (by omega) (by omega) q.2.2.2.1
  obtain ⟨b5, f5, j5⟩ := Im_row (r := 131) (m := 8) j4 (by omega) (by omega) q.2.2.2.2.1
  obtain ⟨b6, f6, j6⟩ := Im_row (r := 132) (m := 8) j5 (by omega) (by omega) q.2.2.2.2.2.1
  obtain ⟨b7, f7, j7⟩ := Im_row (r := 133) (m := 6) j6 (by omega) (by omega) q.2.2.2.2.2.2.1
  obtain ⟨b8, f8, j8⟩ := Im_row (r := 134) (m := 5) j7 (by omega) (by omega) q.2.2.2.2.2.2.2.1
  obtain ⟨b9, f9, j9⟩ := Im_row (r := 135) (m := 5) j8 (by omega) (by omega) q.2.2.2.2.2.2.2.2.1
  obtain ⟨b10, f10, j10⟩ := Im_row (r := 136) (m := 5) j9 (by omega) (by omega) q.2.2.2.2.2.2.2.2.2.1
  obtain ⟨b11, f11, j11⟩ := Im_row (r := 137) (m := 8) j10 (by omega) (by omega) q.2.2.2.2.2.2.2.2.2.2.1
  obtain ⟨b12, f12, j12⟩ := Im_row (r := 138) (m := 8) j11 (by omega) (by omega) q.2.2.2.2.2.2.2.2.2.2.2.1
  obtain ⟨b13, f13, j13⟩ := Im_row (r := 139) (m := 8) j12 (by omega) (by omega) q.2.2.2.2.2.2.2.2.2.2.2.2
  refine ⟨b13, ?_, fun j a b => ?_, ?_, fun p j n1 n2 => ?_⟩
  · unfold m_Md_image m_Md_passesAll
    simp only [Int.reduceAdd, bv_some]
    rw [e0]
    simp only [b2_some, bv_some]
    rw [e1]
    simp only [b2_some, bv_some]
    rw [e2]
    simp only [b2_some, bv_some]
    rw [e3]
    simp only [b2_some, bv_some]
    rw [f1]
    simp only [b1_some]
    rw [f2]
    simp only [b1_some]
    rw [f3]
    simp only [b1_some]
    rw [f4]
    simp only [b1_some]
    rw [f5]
    simp only [b1_some]
    rw [f6]
    simp only [b1_some]
    rw [f7]
    simp only [b1_some]
    rw [f8]
    simp only [b1_some]
    rw [f9]
    simp only [b1_some]
    rw [f10]
    simp only [b1_some]
    rw [f11]
    simp only [b1_some]
    rw [f12]
    simp only [b1_some]
    rw [f13]
    simp only [b1_some, b2_some]
    rw [j13.2.2.2 126 1 (by omega) (by omega), upd2_nj _ (by omega)]
  · rw [j13.1 j a (by omega), sh']
  · rw [j13.2.2.2 126 20 (by omega) (by omega), upd2_eq]
  · rw [j13.2.2.2 p j n1 (by omega)]
    unfold upd2
    rw [if_neg (by omega)]
theorem isI_src {h h1 : HP} {V : Vw} (M : isM h V) (K : okVw V) (e : ∀ j, 0 ≤ j → j < 177 → h1 141 j = srcM h j) : isI h1 V := by
  have hm := K.m
  unfold isI
  refine ⟨?_, ?_, ?_, ?_, fun i p q => ?_, fun i p q => ?_, fun i k p q p' q' => ?_, fun i k p q p' q' => ?_, fun i p q => ?_, fun i p q => ?_, fun i p q => ?_, fun i p q => ?_, fun i p q => ?_⟩
  · rw [e 0 (by omega) (by omega)]; exact M.n
  · rw [e 1 (by omega) (by omega)]; exact M.m
  · rw [e 2 (by omega) (by omega)]; exact M.s
  · rw [e 3 (by omega) (by omega)]; exact M.p
  · rw [e _ (by omega) (by omega)]
    unfold srcM
    simp (disch := omega) only [if_neg, if_pos]
    rw [show i + 4 - 4 = i by omega]
    exact M.ky p q
  · rw [e _ (by omega) (by omega)]
    unfold srcM
    simp (disch := omega) only [if_neg, if_pos]
    rw [show i + 12 - 12 = i by omega]
    exact M.kd p q
  · rw [e _ (by omega) (by omega)]
    unfold srcM
    simp (disch := omega) only [if_neg, if_pos]
    rw [show 4 * i + k + 20 - 20 = 4 * i + k by omega]
    exact M.pt p q p' q'
  · rw [e _ (by omega) (by omega)]
    unfold srcM
    simp (disch := omega) only [if_neg, if_pos]
    rw [show 8 * i + k + 52 - 52 = 8 * i + k by omega]
    exact M.gv p q p' q'
  · rw [e _ (by omega) (by omega)]
    unfold srcM
    simp (disch := omega) only [if_neg, if_pos]
    rw [show i + 116 - 116 = i by omega]
    exact M.rw p q
  · rw [e _ (by omega) (by omega)]
    unfold srcM
    simp (disch := omega) only [if_neg, if_pos]
    rw [show i + 124 - 124 = i by omega]
    exact M.pl p q
  · rw [e _ (by omega) (by omega)]
    unfold srcM
    simp (disch := omega) only [if_neg, if_pos]
    rw [show i + 132 - 132 = i by omega]
    exact M.us p q
  · rw [e (i + 138) (by omega) (by omega), e (i + 143) (by omega) (by omega), e (i + 148) (by omega) (by omega)]
    unfold srcM
    simp (disch := omega) only [if_neg, if_pos]
    rw [show i + 138 - 138 = i by omega, show i + 143 - 143 = i by omega, show i + 148 - 148 = i by omega]
    exact ⟨M.sx p q, M.sy p q, M.si p q⟩
  · rw [e (i + 153) (by omega) (by omega), e (i + 161) (by omega) (by omega), e (i + 169) (by omega) (by omega)]
    unfold srcM
    simp (disch := omega) only [if_neg, if_pos]
    rw [show i + 153 - 153 = i by omega, show i + 161 - 161 = i by omega, show i + 169 - 169 = i by omega]
    exact ⟨M.pw p q, M.pk p q, M.pv p q⟩
theorem A_image : AA (m_Cb_image 0) (m_Md_image 126) := by
  rintro h ⟨V, R⟩
  obtain ⟨X, M, K, I, T, P⟩ := id R
  have hc : m_Exam_copy 31 1 h = some (cpX 31 1 30 h) := X_copy (by omega)
  have X31 : isX 31 (cpX 31 1 30 h) V := isX_cp X
  have f1 : ∀ p j, ¬ (31 ≤ p ∧ p ≤ 60) → ¬ (p = 0 ∧ j = 3) → upd2 (cpX 31 1 30 h) 0 3 1 p j = h p j := fun p j n1 n2 => by
    have : upd2 (cpX 31 1 30 h) 0 3 1 p j = cpX 31 1 30 h p j := by
      unfold upd2
      rw [if_neg n2]
    rw [this]
    exact cpX_fr (by omega)
  have M1 : isM (upd2 (cpX 31 1 30 h) 0 3 1) V := isM_sm ⟨fun j _ => f1 _ _ (by omega) (by omega), fun p j a b => f1 _ _ (by omega) (by omega)⟩ M
  obtain ⟨h2, e2, s2, k2, f2⟩ := M_image (h := upd2 (cpX 31 1 30 h) 0 3 1)
  have ff : ∀ p j, ¬ (31 ≤ p ∧ p ≤ 60) → ¬ (p = 0 ∧ j = 3) → p ≠ 141 → ¬ (p = 126 ∧ (j = 20 ∨ j = 21 ∨ j = 22)) → h2 p j = h p j := fun p j n1 n2 n3 n4 => by
    rw [f2 p j n3 n4]
    exact f1 p j n1 n2
  refine ⟨V 0 1 0, upd2 (cpX 31 1 30 h) 0 3 1, h2, ?_, ?_, V, ?_, ?_, K, ⟨?_, ?_, fun _ => ⟨V, ?_, isI_src M1 K s2, K⟩⟩, ?_, ?_⟩
  · unfold m_Cb_image
    simp only [Int.zero_add]
    rw [hc]
    simp only [b1_some, bv_some]
    rw [upd2_np _ (by omega)]
    have := X31.m
    rw [this]
  · rw [e2, M1.m]
  · exact isX_cg (fun p j a b => ff p j (by omega) (by omega) (by omega) (by omega)) X
  · exact isM_sm ⟨fun j hj => f2 _ _ (by omega) (by omega), fun p j a b => f2 _ _ (by omega) (by omega)⟩ M1
  · refine Or.inr ?_
    rw [f2 0 3 (by omega) (by omega), upd2_eq]
  · rw [k2, f2 0 3 (by omega) (by omega), upd2_eq]
  · exact isX_cg (fun p j a b => by rw [f2 p j (by omega) (by omega), upd2_np _ (by omega)]) X31
  · exact txOK_cg (ff _ _ (by omega) (by omega) (by omega) (by omega)) (ff _ _ (by omega) (by omega) (by omega) (by omega)) (fun i => ff _ _ (by omega) (by omega) (by omega) (by omega)) (fun i => ff _ _ (by omega) (by omega) (by omega) (by omega)) T
  · exact tpOK_cg (fun p j a b => ff _ _ (by omega) (by omega) (by omega) (by omega)) (fun p j a b => ff _ _ (by omega) (by omega) (by omega) (by omega)) P
/-! back to the image -/
def bsR (p : Int) : Int := if p ≤ 127 then 4 else if p = 128 then 12 else if p = 129 then 20 else if p = 130 then 52 else if p = 131 then 116 else if p = 132 then 124 else if p = 133 then 132 else if p = 134 then 138 else if p = 135 then 143 else if p = 136 then 148 else if p = 137 then 153 else if p = 138 then 161 else if p = 139 then 169 else 177
def lnR (p : Int) : Int := if p = 129 then 32 else if p = 130 then 64 else if p = 133 then 6 else if p = 134 then 5 else if p = 135 then 5 else if p = 136 then 5 else 8
theorem bsR_s {q : Int} (hq : 127 ≤ q ∧ q ≤ 139) : bsR (q + 1) = bsR q + lnR q := by
  have h : q = 127 ∨ q = 128 ∨ q = 129 ∨ q = 130 ∨ q = 131 ∨ q = 132 ∨ q = 133 ∨ q = 134 ∨ q = 135 ∨ q = 136 ∨ q = 137 ∨ q = 138 ∨ q = 139 := by omega
  rcases h with rfl | rfl | rfl | rfl | rfl | rfl | rfl | rfl | rfl | rfl | rfl | rfl | rfl <;> rfl
theorem bsR_bd {q : Int} (hq : 127 ≤ q ∧ q ≤ 139) : 4 ≤ bsR q ∧ bsR q + lnR q ≤ 177 ∧ 5 ≤ lnR q := by
  have h : q = 127 ∨ q = 128 ∨ q = 129 ∨ q = 130 ∨ q = 131 ∨ q = 132 ∨ q = 133 ∨ q = 134 ∨ q = 135 ∨ q = 136 ∨ q = 137 ∨ q = 138 ∨ q = 139 := by omega
  rcases h with rfl | rfl | rfl | rfl | rfl | rfl | rfl | rfl | rfl | rfl | rfl | rfl | rfl <;> decide
theorem Un_pass {g : HP} {s v : Int} (h21 : g 126 21 = s) (h22 : g 126 22 = 0) (hs : 0 ≤ s ∧ s < 200) : ∃ g1, m_Md_passes 126 v g = some (g 141 s, g1) ∧ g1 126 21 = s + 1 ∧ ∀ p j, ¬ (p = 126 ∧ j = 21) → g1 p j = g p j := by
  unfold m_Md_passes m_Md_passes_J20
  simp only [Int.reduceAdd, bv_some]
  rw [if_pos h22, h21, if_pos (by omega), if_pos (by omega)]
  refine ⟨_, rfl, ?_, fun p j n => ?_⟩
  · rw [upd2_eq, upd2_np _ (by omega), h21, w32_id (by omega) (by omega)]
  · have e : upd2 (upd2 g 141 s (g 141 s)) 126 21 (w32 (upd2 g 141 s (g 141 s) 126 21 + 1)) p j = upd2 g 141 s (g 141 s) p j := by
      unfold upd2
      rw [if_neg n]
    rw [e]
    unfold upd2
    by_cases c : p = 141 ∧ j = s
    · rw [if_pos c, c.1, c.2]
    · rw [if_neg c]
/-- rows below q are as the image says -/
def Und (h : HP) (q : Int) (g : HP) : Prop := (∀ p k, 127 ≤ p → p < q → 0 ≤ k → k < lnR p → g p k = h 141 (bsR p + k)) ∧ g 126 21 = bsR q ∧ g 126 22 = 0 ∧ (∀ j, g 141 j = h 141 j) ∧ (g 126 0 = h 141 0 ∧ g 126 1 = h 141 1 ∧ g 126 15 = h 141 2 ∧ g 126 16 = h 141 3) ∧ ∀ p j, ¬ (127 ≤ p ∧ p ≤ 139) → ¬ (p = 126 ∧ (j ≤ 1 ∨ j = 15 ∨ j = 16 ∨ j = 21 ∨ j = 22)) → g p j = h p j
theorem Un_row {h g : HP} {q m : Int} (U : Und h q g) (hq : 127 ≤ q ∧ q ≤ 139) (hm : lnR q = m) : ∃ g1, m_Md_passesRow 126 q m g = some g1 ∧ Und h (q + 1) g1 := by
  obtain ⟨u1, u2, u3, u4, u5, u6⟩ := U
  have hb := bsR_bd hq
  have key : ∃ g1, m_Md_passesRow 126 q m g = some g1 ∧ (g1 126 21 = bsR q + m ∧ (∀ k, 0 ≤ k → k < m → g1 q k = h 141 (bsR q + k)) ∧ ∀ p j, ¬ (p = 126 ∧ j = 21) → p ≠ q → g1 p j = g p j) := by
    unfold m_Md_passesRow m_Md_passesRow_L2
    refine loop_ex (fun k (t : Int × HP) => t.1 = k ∧ t.2 126 21 = bsR q + k ∧ (∀ i, 0 ≤ i → i < k → t.2 q i = h 141 (bsR q + i)) ∧ ∀ p j, ¬ (p = 126 ∧ j = 21) → p ≠ q → t.2 p j = g p j) 0 m _ (by omega) (by omega) ⟨rfl, by (try dsimp only); omega, fun i a b => by omega, fun p j n1 n2 => rfl⟩ (fun k t k0 k1 hS => ?_) (fun t hS => ?_)
    · obtain ⟨k', g0⟩ := t
      obtain ⟨z1, z2, z3, z4⟩ := hS
      (try dsimp only at z1 z2 z3 z4 ⊢)
      subst z1
      obtain ⟨g1, e, p1, p2⟩ := Un_pass (v := g0 q k') z2 (by rw [z4 126 22 (by omega) (by omega)]; exact u3) (by omega)
      have ev : g0 141 (bsR q + k') = h 141 (bsR q + k') := by
        rw [z4 141 _ (by omega) (by omega)]
        exact u4 _
      rw [ev] at e
      unfold m_Md_passesRow_L2b
      rw [if_neg (by omega), if_pos (by omega), e, w32_id (by omega) (by omega)]
      simp only [b2_some, bv_some]
      rw [if_pos (by omega)]
      refine ⟨_, rfl, rfl, ?_, fun i a b => ?_, fun p j n1 n2 => ?_⟩
      · (try dsimp only)
        rw [upd2_np _ (by omega), p1]
        omega
      · (try dsimp only)
        by_cases c : i = k'
        · rw [c, upd2_eq]
        · rw [upd2_nj _ c, p2 q i (by omega)]
          exact z3 i a (by omega)
      · (try dsimp only)
        rw [upd2_np _ n2, p2 p j n1]
        exact z4 p j n1 n2
    · obtain ⟨k', g0⟩ := t
      obtain ⟨z1, z2, z3, z4⟩ := hS
      (try dsimp only at z1 z2 z3 z4 ⊢)
      subst z1
      unfold m_Md_passesRow_L2b
      rw [if_pos (by omega)]
      exact ⟨_, rfl, z2, z3, z4⟩
  obtain ⟨g1, e, k1, k2, k3⟩ := key
  refine ⟨g1, e, fun p k p0 p1 k0 kl => ?_, ?_, ?_, fun j => ?_, ⟨?_, ?_, ?_, ?_⟩, fun p j n1 n2 => ?_⟩
  · by_cases c : p = q
    · rw [c] at kl ⊢
      exact k2 k k0 (by omega)
    · rw [k3 p k (by omega) c]
      exact u1 p k p0 (by omega) k0 kl
  · rw [k1, bsR_s hq, hm]
  · rw [k3 126 22 (by omega) (by omega)]; exact u3
  · rw [k3 141 j (by omega) (by omega)]; exact u4 j
  · rw [k3 126 0 (by omega) (by omega)]; exact u5.1
  · rw [k3 126 1 (by omega) (by omega)]; exact u5.2.1
  · rw [k3 126 15 (by omega) (by omega)]; exact u5.2.2.1
  · rw [k3 126 16 (by omega) (by omega)]; exact u5.2.2.2
  · rw [k3 p j (by omega) (by omega)]; exact u6 p j n1 n2
theorem M_undo {h : HP} (h20 : h 126 20 = 1) : ∃ h1, m_Md_undo 126 h = some (h 141 1, h1) ∧ Und h 140 h1 := by
  obtain ⟨g0, eg⟩ : ∃ g0, g0 = upd2 (upd2 h 126 22 0) 126 21 0 := ⟨_, rfl⟩
  have b21 : g0 126 21 = 0 := by rw [eg, upd2_eq]
  have b22 : g0 126 22 = 0 := by rw [eg, upd2_nj _ (by omega), upd2_eq]
  have bf : ∀ p j, ¬ (p = 126 ∧ (j = 21 ∨ j = 22)) → g0 p j = h p j := fun p j n => by
    rw [eg]
    unfold upd2
    (try dsimp only)
    have c1 : ¬ (p = 126 ∧ j = 21) := by omega
    have c2 : ¬ (p = 126 ∧ j = 22) := by omega
    rw [if_neg c1, if_neg c2]
  obtain ⟨a0, e0, s0, f0⟩ := Un_pass (v := g0 126 0) b21 b22 (by omega)
  have un : ∀ (g : HP) f v p j, ¬ (p = 126 ∧ j = f) → upd2 g 126 f v p j = g p j := fun g f v p j n => by
    unfold upd2
    rw [if_neg n]
  rw [bf 141 0 (by omega)] at e0
  obtain ⟨c0, ec0⟩ : ∃ c0, c0 = upd2 a0 126 0 (h 141 0) := ⟨_, rfl⟩
  have k0 : ∀ p j, ¬ (p = 126 ∧ (j = 0 ∨ j = 21 ∨ j = 22)) → c0 p j = h p j := fun p j n => by
    rw [ec0, un _ _ _ _ _ (by omega), f0 p j (by omega), bf p j (by omega)]
  have v0 : c0 126 0 = h 141 0 := by rw [ec0, upd2_eq]
  have w0 : c0 126 21 = 1 := by rw [ec0, upd2_nj _ (by omega), s0]; omega
  have x0 : c0 126 22 = 0 := by rw [ec0, upd2_nj _ (by omega), f0 126 22 (by omega)]; exact b22
  obtain ⟨a1, e1, s1, f1⟩ := Un_pass (v := c0 126 1) w0 x0 (by omega)
  rw [k0 141 1 (by omega)] at e1
  obtain ⟨c1, ec1⟩ : ∃ c1, c1 = upd2 a1 126 1 (h 141 1) := ⟨_, rfl⟩
  have k1 : ∀ p j, ¬ (p = 126 ∧ (j = 0 ∨ j = 1 ∨ j = 21 ∨ j = 22)) → c1 p j = h p j := fun p j n => by
    rw [ec1, un _ _ _ _ _ (by omega), f1 p j (by omega), k0 p j (by omega)]
  have v10 : c1 126 0 = h 141 0 := by rw [ec1, upd2_nj _ (by omega), f1 126 0 (by omega)]; exact v0
  have v11 : c1 126 1 = h 141 1 := by rw [ec1, upd2_eq]
  have w1 : c1 126 21 = 2 := by rw [ec1, upd2_nj _ (by omega), s1]; omega
  have x1 : c1 126 22 = 0 := by rw [ec1, upd2_nj _ (by omega), f1 126 22 (by omega)]; exact x0
  obtain ⟨a2, e2, s2, f2⟩ := Un_pass (v := c1 126 15) w1 x1 (by omega)
  rw [k1 141 2 (by omega)] at e2
  obtain ⟨c2, ec2⟩ : ∃ c2, c2 = upd2 a2 126 15 (h 141 2) := ⟨_, rfl⟩
  have k2 : ∀ p j, ¬ (p = 126 ∧ (j = 0 ∨ j = 1 ∨ j = 15 ∨ j = 21 ∨ j = 22)) → c2 p j = h p j := fun p j n => by
    rw [ec2, un _ _ _ _ _ (by omega), f2 p j (by omega), k1 p j (by omega)]
  have v20 : c2 126 0 = h 141 0 := by rw [ec2, upd2_nj _ (by omega), f2 126 0 (by omega)]; exact v10
  have v21 : c2 126 1 = h 141 1 := by rw [ec2, upd2_nj _ (by omega), f2 126 1 (by omega)]; exact v11
  have v22 : c2 126 15 = h 141 2 := by rw [ec2, upd2_eq]
  have w2 : c2 126 21 = 3 := by rw [ec2, upd2_nj _ (by omega), s2]; omega
  have x2 : c2 126 22 = 0 := by rw [ec2, upd2_nj _ (by omega), f2 126 22 (by omega)]; exact x1
  obtain ⟨a3, e3, s3, f3⟩ := Un_pass (v := c2 126 16) w2 x2 (by omega)
  rw [k2 141 3 (by omega)] at e3
  obtain ⟨c3, ec3⟩ : ∃ c3, c3 = upd2 a3 126 16 (h 141 3) := ⟨_, rfl⟩
  have U0 : Und h 127 c3 := by
    refine ⟨fun p k a b => by omega, ?_, ?_, fun j => ?_, ⟨?_, ?_, ?_, ?_⟩, fun p j n1 n2 => ?_⟩
    · rw [ec3, upd2_nj _ (by omega), s3]; rfl
    · rw [ec3, upd2_nj _ (by omega), f3 126 22 (by omega)]; exact x2
    · rw [ec3, upd2_np _ (by omega), f3 141 j (by omega), k2 141 j (by omega)]
    · rw [ec3, upd2_nj _ (by omega), f3 126 0 (by omega)]; exact v20
    · rw [ec3, upd2_nj _ (by omega), f3 126 1 (by omega)]; exact v21
    · rw [ec3, upd2_nj _ (by omega), f3 126 15 (by omega)]; exact v22
    · rw [ec3, upd2_eq]
    · rw [ec3, un _ _ _ _ _ (by omega), f3 p j (by omega), k2 p j (by omega)]
  obtain ⟨b1, r1, U1⟩ := Un_row (q := 127) (m := 8) U0 (by omega) rfl
  rw [show (127 : Int) + 1 = 128 from rfl] at U1
  obtain ⟨b2, r2, U2⟩ := Un_row (q := 128) (m := 8) U1 (by omega) rfl
  rw [show (128 : Int) + 1 = 129 from rfl] at U2
  obtain ⟨b3, r3, U3⟩ := Un_row (q := 129) (m := 32) U2 (by omega) rfl
  rw [show (129 : Int) + 1 = 130 from rfl] at U3
  obtain ⟨b4, r4, U4⟩ := Un_row (q := 130) (m := 64) U3 (by omega) rfl
  rw [show (130 : Int) + 1 = 131 from rfl] at U4
  obtain ⟨b5, r5, U5⟩ := Un_row (q := 131) (m := 8) U4 (by omega) rfl
  rw [show (131 : Int) + 1 = 132 from rfl] at U5
  obtain ⟨b6, r6, U6⟩ := Un_row (q := 132) (m := 8) U5 (by omega) rfl
  rw [show (132 : Int) + 1 = 133 from rfl] at U6
  obtain ⟨b7, r7, U7⟩ := Un_row (q := 133) (m := 6) U6 (by omega) rfl
  rw [show (133 : Int) + 1 = 134 from rfl] at U7
  obtain ⟨b8, r8, U8⟩ := Un_row (q := 134) (m := 5) U7 (by omega) rfl
  rw [show (134 : Int) + 1 = 135 from rfl] at U8
  obtain ⟨b9, r9, U9⟩ := Un_row (q := 135) (m := 5) U8 (by omega) rfl
  rw [show (135 : Int) + 1 = 136 from rfl] at U9
  obtain ⟨b10, r10, U10⟩ := Un_row (q := 136) (m := 5) U9 (by omega) rfl
  rw [show (136 : Int) + 1 = 137 from rfl] at U10
  obtain ⟨b11, r11, U11⟩ := Un_row (q := 137) (m := 8) U10 (by omega) rfl
  rw [show (137 : Int) + 1 = 138 from rfl] at U11
  obtain ⟨b12, r12, U12⟩ := Un_row (q := 138) (m := 8) U11 (by omega) rfl
  rw [show (138 : Int) + 1 = 139 from rfl] at U12
  obtain ⟨b13, r13, U13⟩ := Un_row (q := 139) (m := 8) U12 (by omega) rfl
  rw [show (139 : Int) + 1 = 140 from rfl] at U13
  refine ⟨b13, ?_, U13⟩
  unfold m_Md_undo m_Md_passesAll
  simp only [Int.reduceAdd, bv_some]
  rw [if_neg (by omega), ← eg, e0]
  simp only [b2_some, bv_some]
  rw [← ec0, e1]
  simp only [b2_some, bv_some]
  rw [← ec1, e2]
  simp only [b2_some, bv_some]
  rw [← ec2, e3]
  simp only [b2_some, bv_some]
  rw [← ec3]
  rw [r1]
  simp only [b1_some]
  rw [r2]
  simp only [b1_some]
  rw [r3]
  simp only [b1_some]
  rw [r4]
  simp only [b1_some]
  rw [r5]
  simp only [b1_some]
  rw [r6]
  simp only [b1_some]
  rw [r7]
  simp only [b1_some]
  rw [r8]
  simp only [b1_some]
  rw [r9]
  simp only [b1_some]
  rw [r10]
  simp only [b1_some]
  rw [r11]
  simp only [b1_some]
  rw [r12]
  simp only [b1_some]
  rw [r13]
  simp only [b1_some, b2_some]
  rw [U13.2.2.2.2.1.2.1]
theorem isM_un {h h1 : HP} {W : Vw} (I : isI h W) (K : okVw W) (U : Und h 140 h1) : isM h1 W := by
  have hm := K.m
  obtain ⟨u1, u2, u3, u4, u5, u6⟩ := U
  have r : ∀ p k m b, 127 ≤ p → p < 140 → lnR p = m → bsR p = b → 0 ≤ k → k < m → h1 p k = h 141 (k + b) := fun p k m b p0 p1 e1 e2 k0 k1 => by
    rw [u1 p k p0 p1 k0 (by omega), e2, Int.add_comm]
  unfold isI at I
  obtain ⟨x0, x1, x2, x3, x4, x5, x6, x7, x8, x9, x10, x11, x12⟩ := I
  unfold isM
  refine ⟨u5.1.trans x0, u5.2.1.trans x1, u5.2.2.1.trans x2, u5.2.2.2.trans x3, fun i p q => ?_, fun i p q => ?_, fun i k p q p' q' => ?_, fun i k p q p' q' => ?_, fun i p q => ?_, fun i p q => ?_, fun i p q => ?_, fun i p q => ?_, fun i p q => ?_⟩
  · rw [r 127 i 8 4 (by omega) (by omega) rfl rfl p q]; exact x4 i p q
  · rw [r 128 i 8 12 (by omega) (by omega) rfl rfl p q]; exact x5 i p q
  · rw [r 129 (4 * i + k) 32 20 (by omega) (by omega) rfl rfl (by omega) (by omega)]; exact x6 i k p q p' q'
  · rw [r 130 (8 * i + k) 64 52 (by omega) (by omega) rfl rfl (by omega) (by omega)]; exact x7 i k p q p' q'
  · rw [r 131 i 8 116 (by omega) (by omega) rfl rfl p (by omega)]; exact x8 i p q
  · rw [r 132 i 8 124 (by omega) (by omega) rfl rfl p (by omega)]; exact x9 i p q
  · rw [r 133 i 6 132 (by omega) (by omega) rfl rfl p q]; exact x10 i p q
  · rw [r 134 i 5 138 (by omega) (by omega) rfl rfl p q, r 135 i 5 143 (by omega) (by omega) rfl rfl p q, r 136 i 5 148 (by omega) (by omega) rfl rfl p q]; exact x11 i p q
  · rw [r 137 i 8 153 (by omega) (by omega) rfl rfl p q, r 138 i 8 161 (by omega) (by omega) rfl rfl p q, r 139 i 8 169 (by omega) (by omega) rfl rfl p q]; exact x12 i p q
theorem A_undo : AA (m_Cb_undo 0) (m_Md_undo 126) := by
  rintro h ⟨V, R⟩
  obtain ⟨X, M, K, I, T, P⟩ := id R
  obtain ⟨I0, I1, I2⟩ := id I
  rcases I0 with z | z
  · refine ⟨-3, h, h, ?_, ?_, V, R⟩
    · unfold m_Cb_undo
      rw [if_pos z]
    · unfold m_Md_undo
      rw [if_pos (by rw [I1]; exact z)]
  · obtain ⟨W, X31, IW, KW⟩ := I2 z
    have hc : m_Exam_copy 1 31 h = some (cpX 1 31 30 h) := X_copy (by omega)
    have X1 : isX 1 (cpX 1 31 30 h) W := isX_cp X31
    have f1 : ∀ p j, ¬ (1 ≤ p ∧ p ≤ 30) → cpX 1 31 30 h p j = h p j := fun p j n => cpX_fr (by omega)
    have IW1 : isI (cpX 1 31 30 h) W := isI_sm (fun j => f1 _ _ (by omega)) IW
    obtain ⟨h2, e2, U⟩ := M_undo (h := cpX 1 31 30 h) (by rw [f1 126 20 (by omega), I1]; exact z)
    have ff : ∀ p j, ¬ (1 ≤ p ∧ p ≤ 30) → ¬ (127 ≤ p ∧ p ≤ 139) → ¬ (p = 126 ∧ (j ≤ 1 ∨ j = 15 ∨ j = 16 ∨ j = 21 ∨ j = 22)) → h2 p j = h p j := fun p j n1 n2 n3 => by
      rw [U.2.2.2.2.2 p j n2 n3]
      exact f1 p j n1
    have M2 := isM_un IW1 KW U
    refine ⟨W 0 1 0, cpX 1 31 30 h, h2, ?_, ?_, W, isX_cg (fun p j a b => U.2.2.2.2.2 p j (by omega) (by omega)) X1, M2, KW, ?_, ?_, ?_⟩
    · unfold m_Cb_undo
      rw [if_neg (show ¬ h 0 3 = 0 by omega)]
      simp only [Int.zero_add]
      rw [hc]
      simp only [b1_some]
      rw [X1.m]
    · rw [e2]
      have : cpX 1 31 30 h 141 1 = W 0 1 0 := IW1.2.1
      rw [this]
    · refine ⟨?_, ?_, fun _ => ⟨W, isX_cg (fun p j a b => ff p j (by omega) (by omega) (by omega)) X31, isI_sm (fun j => ff _ _ (by omega) (by omega) (by omega)) IW, KW⟩⟩
      · rw [ff 0 3 (by omega) (by omega) (by omega)]
        exact I.1
      · rw [ff 0 3 (by omega) (by omega) (by omega), ff 126 20 (by omega) (by omega) (by omega)]
        exact I1
    · exact txOK_cg (ff _ _ (by omega) (by omega) (by omega)) (ff _ _ (by omega) (by omega) (by omega)) (fun i => ff _ _ (by omega) (by omega) (by omega)) (fun i => ff _ _ (by omega) (by omega) (by omega)) T
    · exact tpOK_cg (fun p j a b => ff _ _ (by omega) (by omega) (by omega)) (fun p j a b => ff _ _ (by omega) (by omega) (by omega)) P
