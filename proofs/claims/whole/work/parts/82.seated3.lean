/-! PURE: seated -/
section Sm3
variable {h : HP} {V : Vw} {L : Int → Int} {r : Int}
/-- the model's orders, counted -/
theorem M_waysJ (M : isM h V) (K : okVw V) (hR : MRk V (V 7 0 0) h) (hL : Lkd V (V 7 0 0) (Sc V (V 7 0 0)) L) (h38 : h 126 38 = sz V) (hw : ∀ i, 0 ≤ i → i < sz V → h 150 i = who V i ∧ h 151 i = i) (p : Int) : ∃ h1, m_Md_seated_J102 126 r p h = some (if p = 0 then rdA (kt V L r) (tot V) else rdB (kt V L r) (tot V), h1) ∧ ∀ p j, p ≠ 151 → h1 p j = h p j := by
  have hp := who_p K
  have hk := kt_bd K L r
  have zz : (((sz V).toNat : Nat) : Int) = sz V := by omega
  have i0 : inQ (sz V).toNat (stN (sz V).toNat) (l0 V) (h 151) := inQ_b (by omega) (fun x x0 x1 => (hw x x0 (by omega)).2)
  have okq : ∀ n l q, inQ (sz V).toNat n l q → ∀ i, 0 ≤ i → i < sz V → 0 ≤ q i ∧ q i < sz V := fun n l q hq => by
    have := inQ_ok hq
    rw [zz] at this
    exact this.1
  have nn : ∀ g : HP, (∀ p, p ≠ 151 → g p = h p) → (∀ i, 0 ≤ i → i < sz V → 0 ≤ g 151 i ∧ g 151 i < sz V) → m_Md_nearNow 126 r g = some (nsQ V L r (g 151)) := fun g f ok => by
    have Mg : isM g V := isM_sm ⟨fun j hj => by rw [f 126 (by omega)], fun p j a b => by rw [f p (by omega)]⟩ M
    have Rg : MRk V (V 7 0 0) g := by
      refine ⟨⟨by rw [f 126 (by omega)]; exact hR.1.1, fun j j0 j1 => ?_⟩, fun j j0 j1 => ?_⟩
      · rw [f 144 (by omega), f 145 (by omega), f 146 (by omega), f 147 (by omega)]
        exact hR.1.2 j j0 j1
      · rw [f 148 (by omega)]
        exact hR.2 j j0 j1
    exact M_nearNow Mg K Rg hL (by rw [f 126 (by omega)]; exact h38) (fun i a b => by rw [f 150 (by omega)]; exact (hw i a b).1) ok
  have now : nsQ V L r (h 151) = nsQ V L r (fun x => x) := nsQ_ag (fun x x0 x1 => (hw x x0 x1).2)
  have n0 := nn h (fun _ _ => rfl) (okq _ _ _ i0)
  rw [now] at n0
  unfold m_Md_seated_J102
  rw [n0]
  simp only [b1_some]
  obtain ⟨nw, enw⟩ : ∃ nw, nw = nsQ V L r (fun x => x) := ⟨_, rfl⟩
  have hkt : kt V L r = kcN V L r nw (stN (sz V).toNat) (l0 V) := by rw [enw]; rfl
  have ind0 : (if nw ≤ nsQ V L r (qL (l0 V)) then (1 : Int) else 0) = 1 := by
    rw [nsQ_ag (ag_id K), enw, if_pos (Int.le_refl _)]
  rw [← enw]
  unfold m_Md_seated_L114
  suffices key : ∃ u, loopO (fun s : Int × Int × HP => m_Md_seated_L114b 126 r p nw s.1 s.2.1 s.2.2) FUEL (1, 1, h) = some u ∧ (u.1 = (if p = 0 then rdA (kt V L r) (tot V) else rdB (kt V L r) (tot V)) ∧ ∀ p, p ≠ 151 → u.2 p = h p) by
    obtain ⟨⟨a, h1⟩, e, e2, e3⟩ := key
    (try dsimp only at e2 e3)
    rw [e, e2]
    exact ⟨h1, rfl, fun p j n => by rw [e3 p n]⟩
  refine loop_ex (fun d (t : Int × Int × HP) => t.1 = d + 1 ∧ (∀ p, p ≠ 151 → t.2.2 p = h p) ∧ (0 ≤ t.2.1 ∧ t.2.1 ≤ d + 1) ∧ ∃ (n : Nat) (l : List Int), d + n + 1 = tot V ∧ inQ (sz V).toNat n l (t.2.2 151) ∧ t.2.1 + kcN V L r nw n l - (if nw ≤ nsQ V L r (qL l) then 1 else 0) = kt V L r) 0 (tot V - 1) _ (by omega) (by omega) ⟨rfl, fun p _ => rfl, ⟨by (try dsimp only); omega, by (try dsimp only); omega⟩, stN (sz V).toNat, l0 V, by unfold tot; omega, i0, by (try dsimp only); rw [hkt, ind0]; omega⟩ (fun d t d0 d1 hS => ?_) (fun t hS => ?_)
  · obtain ⟨al, so, g⟩ := t
    obtain ⟨z1, z2, z3, n, l, w1, w2, w3⟩ := hS
    (try dsimp only at z1 z2 z3 w2 w3 ⊢)
    have nx := M_turns (h := g) (z := sz V) (by omega) (by rw [z2 126 (by omega)]; exact h38)
    cases n with
    | zero => omega
    | succ n =>
      have pv := inQ_s w2
      rw [zz] at pv
      obtain ⟨g3, e3, r1, r2⟩ := nx.2 pv.1
      have f3 : ∀ p, p ≠ 151 → g3 p = h p := fun p hp => (r2 p hp).trans (z2 p hp)
      have pv2 := pv.2
      rw [← r1] at pv2
      have ns := nn g3 f3 (okq _ _ _ pv2)
      have ens : nsQ V L r (g3 151) = nsQ V L r (qL (lQ (sz V).toNat (nxQ (sz V) (qL l)))) := nsQ_ag (by have := pv2.2; rw [zz] at this; exact this)
      unfold m_Md_seated_L114b
      rw [e3]
      simp only [b2_some, bv_some]
      rw [if_neg (by omega), ns, ens, w64_id (x := al + 1) (by omega) (by omega), w64_id (x := so + 0) (by omega) (by omega), w64_id (x := so + 1) (by omega) (by omega)]
      simp only [b1_some]
      unfold kcN at w3
      by_cases c : nsQ V L r (qL (lQ (sz V).toNat (nxQ (sz V) (qL l)))) < nw
      · rw [if_pos c]
        refine ⟨_, rfl, by (try dsimp only); omega, f3, ⟨by (try dsimp only); omega, by (try dsimp only); omega⟩, n, _, by omega, pv2, ?_⟩
        (try dsimp only)
        rw [if_neg (show ¬ nw ≤ nsQ V L r (qL (lQ (sz V).toNat (nxQ (sz V) (qL l)))) by omega)]
        omega
      · rw [if_neg c]
        refine ⟨_, rfl, by (try dsimp only); omega, f3, ⟨by (try dsimp only); omega, by (try dsimp only); omega⟩, n, _, by omega, pv2, ?_⟩
        (try dsimp only)
        rw [if_pos (show nw ≤ nsQ V L r (qL (lQ (sz V).toNat (nxQ (sz V) (qL l)))) by omega)]
        omega
  · obtain ⟨al, so, g⟩ := t
    obtain ⟨z1, z2, z3, n, l, w1, w2, w3⟩ := hS
    (try dsimp only at z1 z2 z3 w2 w3 ⊢)
    have nx := M_turns (h := g) (z := sz V) (by omega) (by rw [z2 126 (by omega)]; exact h38)
    cases n with
    | zero =>
      have pv := inQ_0 w2
      rw [zz] at pv
      unfold kcN at w3
      have es : so = kt V L r := by omega
      have ea : al = tot V := by omega
      unfold m_Md_seated_L114b m_Md_seated_J149
      rw [nx.1 pv]
      simp only [b2_some, if_true]
      rw [es, ea, M_lowest p g ⟨by omega, by omega⟩ ⟨by omega, by omega⟩]
      exact ⟨_, rfl, rfl, z2⟩
    | succ n => omega
theorem M_seated (M : isM h V) (K : okVw V) (hL : Lkd V (V 7 0 0) (Sc V (V 7 0 0)) L) (p : Int) : ∃ h1, (b1 (m_Md_orders 126 h) (fun h57 => bv (upd2 h57 126 38 0) (fun h58 => m_Md_seated_L37 126 r p (0, h58)))) = some (if p = 0 then rdA (kt V L r) (tot V) else rdB (kt V L r) (tot V), h1) ∧ frC h h1 := by
  have hm := K.m
  obtain ⟨g0, e0, r0, f0⟩ := M_orders M K
  rw [e0, b1_some, bv_some]
  have un : ∀ (g : HP) r i x p j, ¬ (p = r ∧ j = i) → upd2 g r i x p j = g p j := fun g r i x p j n => by
    unfold upd2
    rw [if_neg n]
  have fin : ∀ g : HP, (∀ p j, p ≠ 150 → p ≠ 151 → ¬ (p = 126 ∧ j = 38) → g p j = g0 p j) → g 126 38 = sz V → (∀ i, 0 ≤ i → i < sz V → g 150 i = who V i ∧ g 151 i = i) → ∃ u, (b1 (m_Md_seated_J102 126 r p g) (fun x => (some (.inr x) : Option ((Int × HP) ⊕ (Int × HP))))) = some (.inr u) ∧ u.1 = (if p = 0 then rdA (kt V L r) (tot V) else rdB (kt V L r) (tot V)) ∧ frC h u.2 := fun g f h38 hw => by
    have Mg : isM g V := isM_sm ⟨fun j hj => by rw [f 126 j (by omega) (by omega) (by omega)]; exact f0.sm.1 j hj, fun p j a b => by rw [f p j (by omega) (by omega) (by omega)]; exact f0.sm.2 p j a b⟩ M
    have Rg : MRk V (V 7 0 0) g := by
      refine ⟨⟨by rw [f 126 29 (by omega) (by omega) (by omega)]; exact r0.1.1, fun j j0 j1 => ?_⟩, fun j j0 j1 => ?_⟩
      · rw [f 144 j (by omega) (by omega) (by omega), f 145 j (by omega) (by omega) (by omega), f 146 j (by omega) (by omega) (by omega), f 147 j (by omega) (by omega) (by omega)]
        exact r0.1.2 j j0 j1
      · rw [f 148 j (by omega) (by omega) (by omega)]
        exact r0.2 j j0 j1
    obtain ⟨h1, e1, q1⟩ := M_waysJ (r := r) Mg K Rg hL h38 hw p
    rw [e1]
    refine ⟨_, rfl, rfl, fun p j n => ?_⟩
    have n2 := n
    unfold scr at n2
    (try dsimp only)
    rw [q1 p j (by omega), f p j (by omega) (by omega) (by omega)]
    exact frR_frC f0 p j n
  unfold m_Md_seated_L37
  suffices key : ∃ u, loopO (fun s : Int × HP => m_Md_seated_L37b 126 r p s.1 s.2) FUEL (0, upd2 g0 126 38 0) = some u ∧ (u.1 = (if p = 0 then rdA (kt V L r) (tot V) else rdB (kt V L r) (tot V)) ∧ frC h u.2) by
    obtain ⟨⟨a, h1⟩, e, e2, e3⟩ := key
    (try dsimp only at e2 e3)
    rw [e, e2]
    exact ⟨h1, rfl, e3⟩
  refine loop_br (fun c (t : Int × HP) => t.1 = c ∧ t.2 126 38 = (gaS V c.toNat).1 ∧ (∀ i, 0 ≤ i → i < (gaS V c.toNat).1 → t.2 150 i = (gaS V c.toNat).2 i ∧ t.2 151 i = i) ∧ ∀ p j, p ≠ 150 → p ≠ 151 → ¬ (p = 126 ∧ j = 38) → t.2 p j = g0 p j) 0 (V 0 1 0) _ (by omega) (by omega) ⟨rfl, show upd2 g0 126 38 0 126 38 = 0 from upd2_eq _ _ _ _, fun i a b => by have : (gaS V (0 : Int).toNat).1 = 0 := rfl; omega, fun p j _ _ n => un _ _ _ _ _ _ n⟩ (fun c t c0 c1 hS => ?_) (fun t hS => ?_)
  · obtain ⟨c', g⟩ := t
    obtain ⟨z1, z2, z3, z4⟩ := hS
    (try dsimp only at z1 z2 z3 z4 ⊢)
    subst z1
    have Mg : isM g V := isM_sm ⟨fun j hj => by rw [z4 126 j (by omega) (by omega) (by omega)]; exact f0.sm.1 j hj, fun p j a b => by rw [z4 p j (by omega) (by omega) (by omega)]; exact f0.sm.2 p j a b⟩ M
    have hp := gaS_p V c'.toNat
    have e5 := Mg.rw c0 c1
    unfold m_Md_seated_L37b
    simp only [Int.reduceAdd, bv_some]
    rw [Mg.m, if_neg (by omega), z2, w32_id (x := c' + 1) (by omega) (by omega)]
    by_cases e : (gaS V c'.toNat).1 < 6
    · rw [if_neg (by omega), if_pos (by omega)]
      refine Or.inl ?_
      rw [gaS_s V c0]
      by_cases d : 0 ≤ V 5 c' 0
      · have u1 : upd2 g 150 (gaS V c'.toNat).1 c' 126 38 = (gaS V c'.toNat).1 := by
          rw [upd2_np _ (by omega)]
          exact z2
        have u2 : upd2 (upd2 g 150 (gaS V c'.toNat).1 c') 151 (gaS V c'.toNat).1 (gaS V c'.toNat).1 126 38 = (gaS V c'.toNat).1 := by
          rw [upd2_np _ (by omega)]
          exact u1
        rw [if_neg (by rw [e5]; omega), if_pos (by omega), u1, if_pos (by omega), u2, w32_id (by omega) (by omega), if_pos ⟨d, e⟩]
        refine ⟨_, rfl, rfl, ?_, fun i a b => ?_, fun p j n1 n2 n3 => ?_⟩
        · (try dsimp only)
          rw [upd2_eq]
        · (try dsimp only at b ⊢)
          by_cases q : i = (gaS V c'.toNat).1
          · rw [if_pos q, q, upd2_np _ (by omega), upd2_np _ (by omega), upd2_eq, upd2_np _ (by omega), upd2_eq]
            exact ⟨rfl, rfl⟩
          · rw [if_neg q, upd2_np _ (by omega), upd2_np _ (by omega), upd2_nj _ q, upd2_np _ (by omega), upd2_nj _ q, upd2_np _ (by omega)]
            exact z3 i a (by omega)
        · (try dsimp only)
          rw [un _ _ _ _ _ _ n3, upd2_np _ n2, upd2_np _ n1]
          exact z4 p j n1 n2 n3
      · rw [if_pos (by rw [e5]; omega), if_neg (fun q => d q.1)]
        exact ⟨_, rfl, rfl, z2, z3, z4⟩
    · rw [if_pos (by omega)]
      have eg : gaS V (V 0 1 0).toNat = gaS V c'.toNat := by
        have := gaS_6 (V := V) (c := c'.toNat) (by omega) ((V 0 1 0).toNat - c'.toNat)
        rw [show c'.toNat + ((V 0 1 0).toNat - c'.toNat) = (V 0 1 0).toNat by omega] at this
        exact this
      exact Or.inr (fin g z4 (by unfold sz; rw [eg]; exact z2) (fun i a b => by unfold sz at b; rw [eg] at b; unfold who; rw [eg]; exact z3 i a b))
  · obtain ⟨c', g⟩ := t
    obtain ⟨z1, z2, z3, z4⟩ := hS
    (try dsimp only at z1 z2 z3 z4 ⊢)
    have Mg : isM g V := isM_sm ⟨fun j hj => by rw [z4 126 j (by omega) (by omega) (by omega)]; exact f0.sm.1 j hj, fun p j a b => by rw [z4 p j (by omega) (by omega) (by omega)]; exact f0.sm.2 p j a b⟩ M
    unfold m_Md_seated_L37b
    rw [Mg.m, z1, if_pos (by omega)]
    exact fin g z4 z2 z3
end Sm3
theorem A_seated (r p : Int) : AA (m_Cb_seated 0 r p) (m_Md_seated 126 r p) := by
  rintro h ⟨V, R⟩
  obtain ⟨X, M, K, I, T, P⟩ := id R
  have hm := K.m
  have hSc := Sc_bd K (V 7 0 0)
  by_cases c : (1 ≤ r ∧ r ≤ 9) ∧ (0 ≤ p ∧ p ≤ 1)
  · obtain ⟨h1, e1, r1, l1, f1⟩ := X_linkNow X K
    have R1 : Rl h1 V := Rl_fr f1 R
    have lo := Lkd_ok K hSc.2 l1
    obtain ⟨h2, e2, q2, f2⟩ := X_ways (L := h1 107) (r := r) R1.1 K lo (fun c _ _ => rfl)
    have F2 : frC h1 h2 := fun p j n => by
      unfold scr at n
      exact f2 p j (by omega) (by omega)
    have R2 : Rl h2 V := Rl_fr F2 R1
    obtain ⟨h3, e3, f3⟩ := M_seated (r := r) R2.2.1 K l1 p
    refine ⟨if p = 0 then rdA (kt V (h1 107) r) (tot V) else rdB (kt V (h1 107) r) (tot V), h2, h3, ?_, ?_, V, Rl_fr f3 R2⟩
    · unfold m_Cb_seated
      simp only [Int.zero_add]
      rw [if_neg (by omega), if_neg (by omega), P_isPart, b1_some, if_pos c.2, if_neg (by omega), e1, b1_some, e2, b1_some, P_half 97 p _ _ h2 q2.1 q2.2, b1_some]
    · unfold m_Md_seated
      rw [P_in, b1_some, if_pos c.1, if_neg (by omega), P_in, b1_some, if_pos c.2, if_neg (by omega)]
      exact e3
  · refine ⟨-9223372036854775808, h, h, ?_, ?_, V, R⟩
    · unfold m_Cb_seated
      rw [P_isPart, b1_some]
      by_cases c1 : r < 1
      · rw [if_pos c1]
      · rw [if_neg c1]
        by_cases c2 : 10 ≤ r
        · rw [if_pos c2]
        · rw [if_neg c2, if_neg (show ¬ (0 ≤ p ∧ p ≤ 1) from fun q => c ⟨by omega, q⟩), if_pos rfl]
    · unfold m_Md_seated
      rw [P_in, b1_some]
      by_cases c1 : 1 ≤ r ∧ r ≤ 9
      · rw [if_pos c1, if_neg (by omega), P_in, b1_some, if_neg (fun q => c ⟨c1, q⟩), if_pos rfl]
      · rw [if_neg c1, if_pos rfl]
