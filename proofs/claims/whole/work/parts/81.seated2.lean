/-! PURE: seated, both sides -/
def plN' (w : Int → Int) (c : Int) : Nat → Int
  | 0 => -1
  | n + 1 => if 0 ≤ plN' w c n then plN' w c n else if w n = c then (n : Int) else -1
theorem plN'_p (w : Int → Int) (c : Int) (n : Nat) : (plN' w c n = -1 ∧ ∀ j : Int, 0 ≤ j → j < n → w j ≠ c) ∨ ((0 ≤ plN' w c n ∧ plN' w c n < n) ∧ w (plN' w c n) = c ∧ ∀ j : Int, 0 ≤ j → j < plN' w c n → w j ≠ c) := by
  induction n with
  | zero => exact Or.inl ⟨rfl, fun j a b => by omega⟩
  | succ n ih =>
    unfold plN'
    rcases ih with ⟨i1, i2⟩ | ⟨i1, i2, i3⟩
    · rw [if_neg (by omega)]
      by_cases d : w n = c
      · rw [if_pos d]
        exact Or.inr ⟨by omega, d, fun j a b => i2 j a (by omega)⟩
      · rw [if_neg d]
        refine Or.inl ⟨rfl, fun j a b => ?_⟩
        by_cases e : j = n
        · rw [e]; exact d
        · exact i2 j a (by omega)
    · rw [if_pos i1.1]
      exact Or.inr ⟨by omega, i2, i3⟩
def plc (V : Vw) (c : Int) : Int := plN' (who V) c (sz V).toNat
theorem plc_p {V : Vw} (K : okVw V) (c : Int) : (plc V c = -1 ∧ ∀ j : Int, 0 ≤ j → j < sz V → who V j ≠ c) ∨ ((0 ≤ plc V c ∧ plc V c < sz V) ∧ who V (plc V c) = c ∧ ∀ j : Int, 0 ≤ j → j < plc V c → who V j ≠ c) := by
  have hp := who_p K
  have h := plN'_p (who V) c (sz V).toNat
  unfold plc
  rcases h with ⟨a, b⟩ | ⟨a, b, d⟩
  · exact Or.inl ⟨a, fun j j0 j1 => b j j0 (by omega)⟩
  · exact Or.inr ⟨by omega, b, d⟩
/-- a pair's part in what is near now -/
def fP (V : Vw) (r : Int) (q : Int → Int) (p : Int × Int) : Int := if 0 ≤ plc V p.1 ∧ 0 ≤ plc V p.2 ∧ nearP V (who V (q (plc V p.1))) (who V (q (plc V p.2))) r then 1 else 0
/-- told by places -/
theorem fP_sum {V : Vw} (K : okVw V) {r : Int} {q : Int → Int} {x y : Int} (hxy : x < y) : fP V r q (x, y) = Sm (fun i => Sm (fun j => if i < j ∧ who V i = x ∧ who V j = y ∧ nearP V (who V (q i)) (who V (q j)) r then 1 else 0) (sz V)) (sz V) := by
  have hp := who_p K
  have inj : ∀ i j, 0 ≤ i → i < sz V → 0 ≤ j → j < sz V → who V i = who V j → i = j := fun i j i0 i1 j0 j1 e => by
    rcases Int.lt_trichotomy i j with c | c | c
    · have := hp.2.2 i j i0 c j1
      omega
    · exact c
    · have := hp.2.2 j i j0 c i1
      omega
  unfold fP
  (try dsimp only)
  rcases plc_p K x with ⟨a1, a2⟩ | ⟨a1, a2, a3⟩
  · rw [if_neg (by omega)]
    exact (Sm_zero (fun i i0 i1 => Sm_zero (fun j j0 j1 => if_neg (fun w => a2 i i0 i1 w.2.1)))).symm
  · rcases plc_p K y with ⟨b1, b2⟩ | ⟨b1, b2, b3⟩
    · rw [if_neg (by omega)]
      exact (Sm_zero (fun i i0 i1 => Sm_zero (fun j j0 j1 => if_neg (fun w => b2 j j0 j1 w.2.2.1)))).symm
    · have lt : plc V x < plc V y := by
        rcases Int.lt_or_le (plc V x) (plc V y) with c | c
        · exact c
        · exfalso
          rcases Int.lt_or_le (plc V y) (plc V x) with d | d
          · have := hp.2.2 _ _ b1.1 d a1.2
            omega
          · have e : plc V x = plc V y := by omega
            rw [e, b2] at a2
            omega
      rw [Sm_sgl (a := plc V x) a1 (fun i i0 i1 n => Sm_zero (fun j j0 j1 => if_neg (fun w => n (inj i _ i0 i1 a1.1 a1.2 (by rw [w.2.1, a2]))))), Sm_sgl (a := plc V y) b1 (fun j j0 j1 n => if_neg (fun w => n (inj j _ j0 j1 b1.1 b1.2 (by rw [w.2.2.1, b2]))))]
      by_cases c : nearP V (who V (q (plc V x))) (who V (q (plc V y))) r
      · rw [if_pos ⟨a1.1, b1.1, c⟩, if_pos ⟨lt, a2, b2, c⟩]
      · rw [if_neg (fun w => c w.2.2), if_neg (fun w => c w.2.2.2)]
/-- near suspects told by pairs, told by places -/
theorem nsQ_pairs {V : Vw} (K : okVw V) {s r : Int} {L q : Int → Int} (hL : Lkd V s (Sc V s) L) : Sm (fun k => if k < Sc V s then fP V r q ((Rk V s).2 k) else 0) (Rk V s).1 = nsQ V L r q := by
  have hp := who_p K
  have hi := Rk_inv K s
  have hS := Sc_bd K s
  have hm := K.m
  have h1 : Sm (fun k => if k < Sc V s then fP V r q ((Rk V s).2 k) else 0) (Rk V s).1 = Sm (fun k => Sm (fun i => Sm (fun j => if k < Sc V s ∧ i < j ∧ (Rk V s).2 k = (who V i, who V j) ∧ nearP V (who V (q i)) (who V (q j)) r then (1 : Int) else 0) (sz V)) (sz V)) (Rk V s).1 := by
    refine Sm_congr (fun k k0 k1 => ?_)
    (try dsimp only)
    have hk := hi.1.2.1 k k0 k1
    have e : (Rk V s).2 k = (((Rk V s).2 k).1, ((Rk V s).2 k).2) := rfl
    by_cases c : k < Sc V s
    · rw [if_pos c, e, fP_sum K hk.2.1]
      refine Sm_congr (fun i i0 i1 => Sm_congr (fun j j0 j1 => ?_))
      (try dsimp only)
      by_cases d : i < j ∧ who V i = ((Rk V s).2 k).1 ∧ who V j = ((Rk V s).2 k).2 ∧ nearP V (who V (q i)) (who V (q j)) r
      · rw [if_pos d, if_pos ⟨c, d.1, by rw [d.2.1, d.2.2.1], d.2.2.2⟩]
      · rw [if_neg d, if_neg (fun w => d ⟨w.2.1, by
          have := w.2.2.1
          injection this with w1 w2
          exact w1.symm, by
          have := w.2.2.1
          injection this with w1 w2
          exact w2.symm, w.2.2.2⟩)]
    · rw [if_neg c]
      exact (Sm_zero (fun i _ _ => Sm_zero (fun j _ _ => if_neg (fun w => c w.1)))).symm
  rw [h1, Sm_comm _ hi.1.1 hp.1.1]
  unfold nsQ
  refine Sm_congr (fun i i0 i1 => ?_)
  (try dsimp only)
  rw [Sm_comm _ hi.1.1 hp.1.1]
  refine Sm_congr (fun j j0 j1 => ?_)
  (try dsimp only)
  unfold nst
  have hwi := hp.2.1 i i0 i1
  have hwj := hp.2.1 j j0 j1
  by_cases c : i < j ∧ nearP V (who V (q i)) (who V (q j)) r
  · have lt := hp.2.2 i j i0 c.1 j1
    have bb := (hL (who V i) hwi.1 (by omega)).2 (who V j) hwj.1 (by omega)
    by_cases d : bt (L (who V i)) (who V j)
    · rw [if_pos ⟨c.1, d, c.2⟩]
      obtain ⟨k, k0, k1, k2⟩ := bb.1 d
      have ek : (Rk V s).2 k = (who V i, who V j) := by
        rcases k2 with w | w
        · exact w
        · exfalso
          have := hi.1.2.1 k k0 (by omega)
          rw [w] at this
          (try dsimp only at this)
          omega
      rw [Sm_sgl (a := k) ⟨k0, by omega⟩ (fun l l0 l1 n => if_neg (fun w => by
        rcases Int.lt_trichotomy l k with z | z | z
        · exact Rk_inj K s l0 z (by omega) (w.2.2.1.trans ek.symm)
        · exact n z
        · exact Rk_inj K s k0 z l1 (ek.trans w.2.2.1.symm)))]
      exact if_pos ⟨k1, c.1, ek, c.2⟩
    · rw [if_neg (fun w => d w.2.1)]
      exact Sm_zero (fun k k0 k1 => if_neg (fun w => d (bb.2 ⟨k, k0, w.1, Or.inl w.2.2.1⟩)))
  · rw [if_neg (fun w => c ⟨w.1, w.2.2⟩)]
    exact Sm_zero (fun k k0 k1 => if_neg (fun w => c ⟨w.2.1, w.2.2.2⟩))
section Sd
variable {h : HP} {V : Vw} {L : Int → Int} {r : Int}
theorem M_placeOf (K : okVw V) (h38 : h 126 38 = sz V) (hw : ∀ i, 0 ≤ i → i < sz V → h 150 i = who V i) (c : Int) : m_Md_placeOf 126 c h = some (plc V c) := by
  have hp := who_p K
  have hb := plc_p K c
  unfold m_Md_placeOf m_Md_placeOf_L2
  have step : ∀ k, 0 ≤ k → k < sz V → who V k ≠ c → m_Md_placeOf_L2b 126 c h k = some (.inl (k + 1)) := fun k k0 k1 n => by
    have e := hw k k0 k1
    unfold m_Md_placeOf_L2b
    simp only [Int.reduceAdd]
    rw [h38, if_neg (by omega), if_pos (by omega), if_neg (by rw [e]; exact n), w32_id (by omega) (by omega)]
  rcases hb with ⟨a1, a2⟩ | ⟨a1, a2, a3⟩
  · refine loop_seq (fun k => k) 0 (sz V) (by omega) (by omega) rfl (fun k k0 k1 => step k k0 k1 (a2 k k0 k1)) ?_
    unfold m_Md_placeOf_L2b
    rw [h38, if_pos (by omega), a1]
  · refine loop_seq (fun k => k) 0 (plc V c) a1.1 (by omega) rfl (fun k k0 k1 => step k k0 (by omega) (a3 k k0 k1)) ?_
    have e := hw (plc V c) a1.1 a1.2
    unfold m_Md_placeOf_L2b
    simp only [Int.reduceAdd]
    rw [h38, if_neg (by omega), if_pos (by omega), if_pos (by rw [e]; exact a2)]
theorem M_nearNow (M : isM h V) (K : okVw V) (hR : MRk V (V 7 0 0) h) (hL : Lkd V (V 7 0 0) (Sc V (V 7 0 0)) L) (h38 : h 126 38 = sz V) (hw : ∀ i, 0 ≤ i → i < sz V → h 150 i = who V i) (ok : ∀ i, 0 ≤ i → i < sz V → 0 ≤ h 151 i ∧ h 151 i < sz V) : m_Md_nearNow 126 r h = some (nsQ V L r (h 151)) := by
  have hp := who_p K
  have hi := Rk_inv K (V 7 0 0)
  have hm := K.m
  have hnn := hi.1.1
  rw [← nsQ_pairs (r := r) (q := h 151) K hL]
  have e29 : h 126 29 = (Rk V (V 7 0 0)).1 := hR.1.1
  have fb : ∀ p, 0 ≤ fP V r (h 151) p ∧ fP V r (h 151) p ≤ 1 := fun p => by
    unfold fP
    split <;> omega
  unfold m_Md_nearNow m_Md_nearNow_L4
  refine loop_seq (fun k => (Sm (fun k => if k < Sc V (V 7 0 0) then fP V r (h 151) ((Rk V (V 7 0 0)).2 k) else 0) k, k)) 0 (Rk V (V 7 0 0)).1 hi.1.1 (by omega) rfl (fun k k0 k1 => ?_) ?_
  · have hb := Sm_bd (f := fun k => if k < Sc V (V 7 0 0) then fP V r (h 151) ((Rk V (V 7 0 0)).2 k) else 0) 0 1 k0 (fun i _ _ => by
      have := fb ((Rk V (V 7 0 0)).2 i)
      (try dsimp only)
      split <;> omega)
    have g2 := hR.1.2 k k0 k1
    have g3 := hR.2 k k0 k1
    have px := plc_p K ((Rk V (V 7 0 0)).2 k).1
    have py := plc_p K ((Rk V (V 7 0 0)).2 k).2
    obtain ⟨S, eS⟩ : ∃ S, S = Sm (fun k => if k < Sc V (V 7 0 0) then fP V r (h 151) ((Rk V (V 7 0 0)).2 k) else 0) k := ⟨_, rfl⟩
    rw [← eS] at hb
    have fin0 : (if k < Sc V (V 7 0 0) then fP V r (h 151) ((Rk V (V 7 0 0)).2 k) else 0) = 0 → (some (.inl (S + 0, k + 1)) : Option ((Int × Int) ⊕ Int)) = some (.inl (Sm (fun k => if k < Sc V (V 7 0 0) then fP V r (h 151) ((Rk V (V 7 0 0)).2 k) else 0) (k + 1), k + 1)) := fun e => by
      rw [Sm_s _ k0, ← eS]
      (try dsimp only)
      rw [e]
    (try dsimp only)
    rw [← eS]
    unfold m_Md_nearNow_L4b
    simp only [Int.reduceAdd, bv_some]
    rw [e29, if_neg (by omega), if_pos (by omega), g2.1, g2.2.1, M_placeOf K h38 hw, M_placeOf K h38 hw, w32_id (x := k + 1) (by omega) (by omega), w32_id (x := S + 0) (by omega) (by omega), w32_id (x := S + 1) (by omega) (by omega)]
    simp only [b1_some]
    rw [if_pos (by omega), if_pos (by omega)]
    by_cases c : k < Sc V (V 7 0 0)
    · rw [if_pos c] at g3
      rw [if_neg (by rw [g3]; omega)]
      by_cases d : plc V ((Rk V (V 7 0 0)).2 k).1 < 0
      · rw [if_pos d]
        refine fin0 ?_
        rw [if_pos c]
        unfold fP
        rw [if_neg (by omega)]
      · rw [if_neg d]
        by_cases e : plc V ((Rk V (V 7 0 0)).2 k).2 < 0
        · rw [if_pos e]
          refine fin0 ?_
          rw [if_pos c]
          unfold fP
          rw [if_neg (by omega)]
        · have ox := ok (plc V ((Rk V (V 7 0 0)).2 k).1) (by omega) (by omega)
          have oy := ok (plc V ((Rk V (V 7 0 0)).2 k).2) (by omega) (by omega)
          have wx := hp.2.1 _ ox.1 ox.2
          have wy := hp.2.1 _ oy.1 oy.2
          rw [if_neg e, if_pos (by omega), if_pos (by omega), if_pos (by omega), if_pos (by omega), hw _ ox.1 ox.2, hw _ oy.1 oy.2, M_isNear M K (by omega) (by omega)]
          simp only [b1_some, if10]
          by_cases f : nearP V (who V (h 151 (plc V ((Rk V (V 7 0 0)).2 k).1))) (who V (h 151 (plc V ((Rk V (V 7 0 0)).2 k).2))) r
          · rw [if_pos f, Sm_s _ k0, ← eS]
            (try dsimp only)
            rw [if_pos c]
            unfold fP
            rw [if_pos ⟨by omega, by omega, f⟩]
          · rw [if_neg f]
            refine fin0 ?_
            rw [if_pos c]
            unfold fP
            rw [if_neg (fun w => f w.2.2)]
    · rw [if_neg c] at g3
      rw [if_pos (by rw [g3])]
      exact fin0 (by rw [if_neg c])
  · (try dsimp only)
    unfold m_Md_nearNow_L4b
    rw [e29, if_pos (by omega)]
/-- how many of the orders to come have as much -/
def kcN (V : Vw) (L : Int → Int) (r now : Int) : Nat → List Int → Int
  | 0, l => if now ≤ nsQ V L r (qL l) then 1 else 0
  | n + 1, l => (if now ≤ nsQ V L r (qL l) then 1 else 0) + kcN V L r now n (lQ (sz V).toNat (nxQ (sz V) (qL l)))
theorem kcN_bd (V : Vw) (L : Int → Int) (r now : Int) (n : Nat) : ∀ l, 0 ≤ kcN V L r now n l ∧ kcN V L r now n l ≤ n + 1 := by
  induction n with
  | zero =>
    intro l
    unfold kcN
    split <;> omega
  | succ n ih =>
    intro l
    have := ih (lQ (sz V).toNat (nxQ (sz V) (qL l)))
    unfold kcN
    split <;> omega
def l0 (V : Vw) : List Int := lQ (sz V).toNat (fun x => x)
def tot (V : Vw) : Int := (stN (sz V).toNat : Int) + 1
def kt (V : Vw) (L : Int → Int) (r : Int) : Int := kcN V L r (nsQ V L r (fun x => x)) (stN (sz V).toNat) (l0 V)
theorem ag_id {V : Vw} (K : okVw V) : agQ (sz V) (qL (l0 V)) (fun x => x) := by
  have hp := who_p K
  have := qL_lQ (z := (sz V).toNat) (q := fun x => x)
  rw [show (((sz V).toNat : Nat) : Int) = sz V by omega] at this
  exact this
theorem kt_bd {V : Vw} (K : okVw V) (L : Int → Int) (r : Int) : 1 ≤ kt V L r ∧ kt V L r ≤ tot V ∧ 1 ≤ tot V ∧ tot V ≤ 720 := by
  have hp := who_p K
  have h1 := kcN_bd V L r (nsQ V L r (fun x => x)) (stN (sz V).toNat) (l0 V)
  have h2 := stN_bd (z := (sz V).toNat) (by omega)
  have e : nsQ V L r (qL (l0 V)) = nsQ V L r (fun x => x) := nsQ_ag (ag_id K)
  have h3 : 1 ≤ kt V L r := by
    unfold kt
    cases hn : stN (sz V).toNat with
    | zero =>
      unfold kcN
      rw [e, if_pos (Int.le_refl _)]
      omega
    | succ n =>
      have := kcN_bd V L r (nsQ V L r (fun x => x)) n (lQ (sz V).toNat (nxQ (sz V) (qL (l0 V))))
      unfold kcN
      rw [e, if_pos (Int.le_refl _)]
      omega
  unfold kt at h3 ⊢
  unfold tot
  omega
theorem X_ways (X : isX 1 h V) (K : okVw V) (hL : Lok (V 0 1 0) L) (hl : ∀ c, 0 ≤ c → c < 8 → h 107 c = L c) : ∃ h1, m_Seating_ways 108 1 106 r 97 h = some h1 ∧ (h1 97 0 = rdA (kt V L r) (tot V) ∧ h1 97 1 = rdB (kt V L r) (tot V)) ∧ ∀ p j, ¬ (108 ≤ p ∧ p ≤ 112) → p ≠ 97 → h1 p j = h p j := by
  have hp := who_p K
  have hk := kt_bd K L r
  obtain ⟨g1, e1, a0, a1, a2⟩ := X_gather X K
  have X1 : isX 1 g1 V := isX_cg (fun p j a b => a2 p j (by omega)) X
  obtain ⟨g2, e2, b1, b2⟩ := X_relate (L := L) (r := r) X1 K hL (fun c c0 c1 => by rw [a2 107 c (by omega)]; exact hl c c0 c1) a0 (fun i i0 i1 => (a1 i i0 i1).1)
  have s2 : g2 108 0 = sz V := by rw [b2 108 0 (by omega)]; exact a0
  have q2 : ∀ x, 0 ≤ x → x < sz V → g2 110 x = x := fun x x0 x1 => by rw [b2 110 x (by omega)]; exact (a1 x x0 x1).2
  have i0 : inQ (sz V).toNat (stN (sz V).toNat) (l0 V) (g2 110) := inQ_b (by omega) (fun x x0 x1 => q2 x x0 (by omega))
  have zz : (((sz V).toNat : Nat) : Int) = sz V := by omega
  have okq : ∀ n l q, inQ (sz V).toNat n l q → (∀ i, 0 ≤ i → i < sz V → 0 ≤ q i ∧ q i < sz V) ∧ ∀ i j, 0 ≤ i → i < sz V → 0 ≤ j → j < sz V → i ≠ j → q i ≠ q j := fun n l q hq => by
    have := inQ_ok hq
    rw [zz] at this
    exact this
  have now : nsQ V L r (g2 110) = nsQ V L r (fun x => x) := nsQ_ag (fun x x0 x1 => q2 x x0 x1)
  have n2 := X_nearS (L := L) (r := r) (q := g2 110) K s2 b1 rfl (okq _ _ _ i0)
  rw [now] at n2
  unfold m_Seating_ways
  rw [e1]
  simp only [b1_some]
  rw [e2]
  simp only [b1_some]
  rw [n2]
  simp only [b1_some]
  obtain ⟨nw, enw⟩ : ∃ nw, nw = nsQ V L r (fun x => x) := ⟨_, rfl⟩
  have hkt : kt V L r = kcN V L r nw (stN (sz V).toNat) (l0 V) := by rw [enw]; rfl
  rw [← enw]
  have rows : ∀ g : HP, (∀ p, p ≠ 110 → g p = g2 p) → g 108 0 = sz V ∧ ∀ i, 0 ≤ i → i < sz V → rlOK V L r g i (sz V) := fun g f => by
    refine ⟨by rw [f 108 (by omega)]; exact s2, fun i j0 j1 => ?_⟩
    have := b1 i j0 j1
    unfold rlOK at this ⊢
    rw [f 111 (by omega), f 112 (by omega)]
    exact this
  unfold m_Seating_ways_L27
  refine loop_ex (fun d (t : Int × Int × Int × HP) => t.1 = d ∧ (∀ p, p ≠ 110 → t.2.2.2 p = g2 p) ∧ ((t.2.2.1 = 1 ∧ ∃ (n : Nat) (l : List Int), d + n + 1 = tot V ∧ inQ (sz V).toNat n l (t.2.2.2 110) ∧ t.2.1 + kcN V L r nw n l = kt V L r) ∨ (t.2.2.1 = 0 ∧ d = tot V ∧ t.2.1 = kt V L r)) ∧ 0 ≤ t.2.1 ∧ t.2.1 ≤ d) 0 (tot V) _ (by omega) (by omega) ⟨rfl, fun p _ => rfl, Or.inl ⟨rfl, stN (sz V).toNat, l0 V, by unfold tot; omega, i0, by (try dsimp only); rw [hkt]; omega⟩, by (try dsimp only); omega, by (try dsimp only); omega⟩ (fun d t d0 d1 hS => ?_) (fun t hS => ?_)
  · obtain ⟨al, am, mo, g⟩ := t
    obtain ⟨z1, z2, z3, z4, z5⟩ := hS
    (try dsimp only at z1 z2 z3 z4 z5 ⊢)
    subst z1
    rcases z3 with ⟨m1, n, l, w1, w2, w3⟩ | ⟨m0, w1, w2⟩
    · have rg := rows g z2
      have ns := X_nearS (L := L) (r := r) (q := g 110) K rg.1 rg.2 rfl (okq _ _ _ w2)
      have ens : nsQ V L r (g 110) = nsQ V L r (qL l) := nsQ_ag (by have := w2.2; rw [zz] at this; exact this)
      have nx := X_nextWay (h := g) (z := sz V) (by omega) rg.1
      -- behind the counting
      have J : ∀ am', (am' = am + if nw ≤ nsQ V L r (qL l) then 1 else 0) → ∃ t : Int × Int × Int × HP, m_Seating_ways_J55 108 97 nw (al + 1) am' g = some (.inl t) ∧ t.1 = al + 1 ∧ (∀ p, p ≠ 110 → t.2.2.2 p = g2 p) ∧ ((t.2.2.1 = 1 ∧ ∃ (n : Nat) (l : List Int), al + 1 + n + 1 = tot V ∧ inQ (sz V).toNat n l (t.2.2.2 110) ∧ t.2.1 + kcN V L r nw n l = kt V L r) ∨ (t.2.2.1 = 0 ∧ al + 1 = tot V ∧ t.2.1 = kt V L r)) ∧ 0 ≤ t.2.1 ∧ t.2.1 ≤ al + 1 := fun am' ham => by
        have hb : 0 ≤ am' ∧ am' ≤ al + 1 := by
          rw [ham]
          split <;> omega
        unfold m_Seating_ways_J55
        cases n with
        | zero =>
          have pv := inQ_0 w2
          rw [zz] at pv
          rw [nx.1 pv]
          refine ⟨_, rfl, rfl, z2, Or.inr ⟨rfl, by omega, ?_⟩, hb.1, hb.2⟩
          (try dsimp only)
          unfold kcN at w3
          omega
        | succ n =>
          have pv := inQ_s w2
          rw [zz] at pv
          obtain ⟨g3, e3, r1, r2⟩ := nx.2 pv.1
          rw [e3]
          refine ⟨_, rfl, rfl, fun p hp => (r2 p hp).trans (z2 p hp), Or.inl ⟨rfl, n, _, by omega, by (try dsimp only); rw [r1]; exact pv.2, ?_⟩, hb.1, hb.2⟩
          (try dsimp only)
          unfold kcN at w3
          omega
      unfold m_Seating_ways_L27b
      rw [if_neg (by omega), if_neg (by omega), ns, w32_id (x := al + 1) (by omega) (by omega), w32_id (x := am + 1) (by omega) (by omega), ens]
      simp only [b1_some]
      by_cases c : nsQ V L r (qL l) < nw
      · rw [if_pos c]
        exact J am (by rw [if_neg (by omega)]; omega)
      · rw [if_neg c]
        exact J (am + 1) (by rw [if_pos (by omega)])
    · omega
  · obtain ⟨al, am, mo, g⟩ := t
    obtain ⟨z1, z2, z3, z4, z5⟩ := hS
    (try dsimp only at z1 z2 z3 z4 z5 ⊢)
    subst z1
    rcases z3 with ⟨m1, n, l, w1, w2, w3⟩ | ⟨m0, w1, w2⟩
    · omega
    · unfold m_Seating_ways_L27b m_Seating_ways_J64
      rw [if_pos m0, w2, X_put 97 g ⟨by omega, by omega⟩ ⟨by omega, by omega⟩]
      refine ⟨_, rfl, ⟨?_, upd2_eq _ _ _ _⟩, fun p j n1 n2 => ?_⟩
      · rw [upd2_nj _ (by omega), upd2_eq]
      · rw [upd2_np _ n2, upd2_np _ n2, z2 p (by omega), b2 p j (by omega), a2 p j (by omega)]
end Sd
