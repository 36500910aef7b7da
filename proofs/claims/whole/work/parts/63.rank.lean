/-! PURE: pairs in order -/
/-- a pair's odds by s: by 2, 3 the lesser of both ways -/
def qo (V : Vw) (s : Int) (p : Int × Int) : Int := if 1 < s ∧ cmp4 (ov V p.2 p.1 s (-1)) (bl V p.2 p.1 s (-1)) (ov V p.1 p.2 s (-1)) (bl V p.1 p.2 s (-1)) < 0 then ov V p.2 p.1 s (-1) else ov V p.1 p.2 s (-1)
def qb (V : Vw) (s : Int) (p : Int × Int) : Int := if 1 < s ∧ cmp4 (ov V p.2 p.1 s (-1)) (bl V p.2 p.1 s (-1)) (ov V p.1 p.2 s (-1)) (bl V p.1 p.2 s (-1)) < 0 then bl V p.2 p.1 s (-1) else bl V p.1 p.2 s (-1)
def cq (V : Vw) (s : Int) (p q : Int × Int) : Int := cmp4 (qo V s p) (qb V s p) (qo V s q) (qb V s q)
abbrev PG : Type := Int → Int × Int
def posN (V : Vw) (s : Int) (p : Int × Int) (G : PG) : Nat → Int
  | 0 => 0
  | k + 1 => if cq V s p (G k) < 0 then posN V s p G k else (k : Int) + 1
def pos (V : Vw) (s : Int) (p : Int × Int) (G : PG) (n : Int) : Int := posN V s p G n.toNat
def insG (V : Vw) (s : Int) (p : Int × Int) (G : PG) (n : Int) : PG := fun j => if j < pos V s p G n then G j else if j = pos V s p G n then p else G (j - 1)
section Pos
variable {V : Vw} {s : Int} {p : Int × Int} {G : PG}
theorem q_bd (K : okVw V) (p : Int × Int) : (0 ≤ qo V s p ∧ qo V s p < 9223372036854775808) ∧ 1 ≤ qb V s p ∧ qb V s p ≤ 184884258895036416 := by
  have h1 := ov_bd (x := p.1) (y := p.2) (s := s) (but := -1) K
  have h2 := ov_bd (x := p.2) (y := p.1) (s := s) (but := -1) K
  have h3 := bl_bd (x := p.1) (y := p.2) (s := s) (but := -1) K
  have h4 := bl_bd (x := p.2) (y := p.1) (s := s) (but := -1) K
  unfold qo qb
  split <;> exact ⟨by omega, by omega⟩
theorem posN_p (k : Nat) : (0 ≤ posN V s p G k ∧ posN V s p G k ≤ k) ∧ (∀ j : Int, posN V s p G k ≤ j → j < k → cq V s p (G j) < 0) ∧ (posN V s p G k = 0 ∨ 0 ≤ cq V s p (G (posN V s p G k - 1))) := by
  induction k with
  | zero => exact ⟨⟨Int.le_refl _, Int.le_refl _⟩, fun j a b => by have : posN V s p G 0 = 0 := rfl; omega, Or.inl rfl⟩
  | succ k ih =>
    obtain ⟨i1, i2, i3⟩ := ih
    unfold posN
    by_cases c : cq V s p (G k) < 0
    · rw [if_pos c]
      refine ⟨by omega, fun j a b => ?_, i3⟩
      by_cases e : j = k
      · rw [e]; exact c
      · exact i2 j a (by omega)
    · rw [if_neg c]
      refine ⟨by omega, fun j a b => by omega, Or.inr ?_⟩
      rw [show (k : Int) + 1 - 1 = k by omega]
      omega
theorem pos_p {n : Int} (hn : 0 ≤ n) : (0 ≤ pos V s p G n ∧ pos V s p G n ≤ n) ∧ (∀ j : Int, pos V s p G n ≤ j → j < n → cq V s p (G j) < 0) ∧ (pos V s p G n = 0 ∨ 0 ≤ cq V s p (G (pos V s p G n - 1))) := by
  obtain ⟨k, rfl⟩ : ∃ k : Nat, n = k := ⟨n.toNat, by omega⟩
  have h := posN_p (V := V) (s := s) (p := p) (G := G) k
  unfold pos
  rw [show ((k : Int)).toNat = k by omega]
  exact h
theorem cq_sw (p q : Int × Int) : cq V s q p = - cq V s p q := cmp_sw _ _ _ _
/-- a sum over what is put in -/
theorem insG_sum {n : Int} (hn : 0 ≤ n) (φ : Int × Int → Int) : Sm (fun j => φ (insG V s p G n j)) (n + 1) = Sm (fun j => φ (G j)) n + φ p := by
  have hp := (pos_p (V := V) (s := s) (p := p) (G := G) hn).1
  obtain ⟨c, hc⟩ : ∃ c, c = pos V s p G n := ⟨_, rfl⟩
  have e0 : ∀ m, m ≤ c → Sm (fun j => φ (insG V s p G n j)) m = Sm (fun j => φ (G j)) m := fun m hm => Sm_congr (fun i i0 i1 => by
    unfold insG
    rw [← hc, if_pos (by omega)])
  have e1 : ∀ k : Nat, Sm (fun j => φ (insG V s p G n j)) (c + k + 1) = Sm (fun j => φ (G j)) (c + k) + φ p := by
    intro k
    induction k with
    | zero =>
      rw [show c + ((0 : Nat) : Int) = c by omega, Sm_s _ (by omega), e0 c (by omega)]
      congr 1
      unfold insG
      rw [← hc, if_neg (by omega), if_pos rfl]
    | succ k ih =>
      rw [Sm_s _ (by omega), show c + ((k + 1 : Nat) : Int) = c + k + 1 by omega, ih, Sm_s _ (by omega)]
      have e2 : insG V s p G n (c + k + 1) = G (c + k) := by
        unfold insG
        rw [← hc, if_neg (by omega), if_neg (by omega), show c + (k : Int) + 1 - 1 = c + k by omega]
      (try dsimp only)
      rw [e2]
      omega
  have h2 := e1 (n - c).toNat
  rw [show c + ((n - c).toNat : Int) = n by omega] at h2
  exact h2
end Pos
/-- near, in reach -/
abbrev nearP (V : Vw) (x y r : Int) : Prop := 0 ≤ V 5 x 0 ∧ 0 ≤ V 5 y 0 ∧ (V 5 x 0 - V 5 y 0 ≤ r ∧ V 5 y 0 - V 5 x 0 ≤ r) ∧ (V 6 x 0 - V 6 y 0 ≤ r ∧ V 6 y 0 - V 6 x 0 ≤ r)
abbrev rch (V : Vw) (x y : Int) : Prop := V 7 3 0 = 0 ∨ nearP V x y (V 7 3 0)
/-- how many, which -/
abbrev RS : Type := Int × PG
def rkS (V : Vw) (s x y : Int) (st : RS) : RS := if rch V x y then (st.1 + 1, insG V s (x, y) st.2 st.1) else st
def rkY (V : Vw) (s x : Int) (st : RS) : Nat → RS
  | 0 => st
  | k + 1 => rkS V s x (x + 1 + k) (rkY V s x st k)
def rkX (V : Vw) (s : Int) : Nat → RS
  | 0 => (0, fun _ => (0, 0))
  | k + 1 => rkY V s k (rkX V s k) (V 0 1 0 - 1 - k).toNat
def Rk (V : Vw) (s : Int) : RS := rkX V s (V 0 1 0).toNat
def triN (m : Int) : Nat → Int
  | 0 => 0
  | k + 1 => triN m k + max (m - 1 - k) 0
theorem triN_le {m : Int} (hm : m ≤ 8) (k : Nat) : 0 ≤ triN m k ∧ triN m k ≤ triN 8 k := by
  induction k with
  | zero => exact ⟨Int.le_refl _, Int.le_refl _⟩
  | succ k ih => unfold triN; omega
theorem triN_28 {m : Int} (hm : m ≤ 8) {k : Nat} (hk : k ≤ 8) : triN m k ≤ 28 := by
  have h := (triN_le hm k).2
  have h2 : ∀ k : Fin 9, triN 8 k ≤ 28 := by decide
  have h3 := h2 ⟨k, by omega⟩
  (try dsimp only at h3)
  omega
/-- what a state of the ranking is -/
def RInv (V : Vw) (s : Int) (st : RS) : Prop := 0 ≤ st.1 ∧ (∀ j, 0 ≤ j → j < st.1 → 0 ≤ (st.2 j).1 ∧ (st.2 j).1 < (st.2 j).2 ∧ (st.2 j).2 < V 0 1 0) ∧ (∀ j, 0 ≤ j → j + 1 < st.1 → 0 ≤ cq V s (st.2 (j + 1)) (st.2 j))
theorem RInv_S {V : Vw} {s x y : Int} {st : RS} (hx : 0 ≤ x ∧ x < y ∧ y < V 0 1 0) (h : RInv V s st) : RInv V s (rkS V s x y st) := by
  unfold rkS
  by_cases c : rch V x y
  · rw [if_pos c]
    obtain ⟨n, G⟩ := st
    obtain ⟨h1, h2, h3⟩ := h
    (try dsimp only at h1 h2 h3)
    have hp := pos_p (V := V) (s := s) (p := (x, y)) (G := G) h1
    refine ⟨by (try dsimp only); omega, fun j j0 j1 => ?_, fun j j0 j1 => ?_⟩
    · (try dsimp only at j1 ⊢)
      unfold insG
      by_cases c1 : j < pos V s (x, y) G n
      · rw [if_pos c1]
        exact h2 j j0 (by omega)
      · rw [if_neg c1]
        by_cases c2 : j = pos V s (x, y) G n
        · rw [if_pos c2]
          exact hx
        · rw [if_neg c2]
          exact h2 (j - 1) (by omega) (by omega)
    · (try dsimp only at j1 ⊢)
      unfold insG
      by_cases c1 : j + 1 < pos V s (x, y) G n
      · rw [if_pos c1, if_pos (by omega)]
        exact h3 j j0 (by omega)
      · rw [if_neg c1]
        by_cases c2 : j + 1 = pos V s (x, y) G n
        · rw [if_pos c2, if_pos (by omega)]
          have := hp.2.2.resolve_left (by omega)
          rw [← c2, show j + 1 - 1 = j by omega] at this
          exact this
        · rw [if_neg c2, if_neg (by omega), show j + 1 - 1 = j by omega]
          by_cases c3 : j = pos V s (x, y) G n
          · rw [if_pos c3, cq_sw]
            have := hp.2.1 j (by omega) (by omega)
            omega
          · rw [if_neg c3]
            have := h3 (j - 1) (by omega) (by omega)
            rw [show j - 1 + 1 = j by omega] at this
            exact this
  · rw [if_neg c]
    exact h
theorem rkS_n (V : Vw) (s x y : Int) (st : RS) : st.1 ≤ (rkS V s x y st).1 ∧ (rkS V s x y st).1 ≤ st.1 + 1 := by
  unfold rkS
  split
  · (try dsimp only); omega
  · omega
theorem rkY_inv {V : Vw} {s x : Int} {st : RS} (hx : 0 ≤ x) (h : RInv V s st) : ∀ k : Nat, x + k < V 0 1 0 → RInv V s (rkY V s x st k) ∧ (rkY V s x st k).1 ≤ st.1 + k := by
  intro k
  induction k with
  | zero => intro _; exact ⟨h, by show st.1 ≤ _; omega⟩
  | succ k ih =>
    intro hk
    obtain ⟨i1, i2⟩ := ih (by omega)
    have hn := rkS_n V s x (x + 1 + k) (rkY V s x st k)
    unfold rkY
    exact ⟨RInv_S ⟨hx, by omega, by omega⟩ i1, by omega⟩
theorem rkX_inv {V : Vw} {s : Int} : ∀ k : Nat, (k : Int) ≤ V 0 1 0 → RInv V s (rkX V s k) ∧ (rkX V s k).1 ≤ triN (V 0 1 0) k := by
  intro k
  induction k with
  | zero => intro _; exact ⟨⟨Int.le_refl _, fun j a b => by have : (rkX V s 0).1 = 0 := rfl; omega, fun j a b => by have : (rkX V s 0).1 = 0 := rfl; omega⟩, Int.le_refl _⟩
  | succ k ih =>
    intro hk
    obtain ⟨i1, i2⟩ := ih (by omega)
    have h := rkY_inv (x := (k : Int)) (by omega) i1 (V 0 1 0 - 1 - k).toNat (by omega)
    unfold rkX triN
    exact ⟨h.1, by omega⟩
theorem Rk_inv {V : Vw} (K : okVw V) (s : Int) : RInv V s (Rk V s) ∧ (Rk V s).1 ≤ 28 := by
  have hm := K.m
  have h := rkX_inv (V := V) (s := s) (V 0 1 0).toNat (by omega)
  have h2 := triN_28 (m := V 0 1 0) (by omega) (k := (V 0 1 0).toNat) (by omega)
  exact ⟨h.1, by unfold Rk; omega⟩
/-! who is suspect -/
abbrev low (V : Vw) (s : Int) (p : Int × Int) (t b : Int) : Prop := cmp4 (qo V s p) (qb V s p) (V 7 2 0 * b) (1000 * t) ≤ 0
abbrev hold (V : Vw) (s n : Int) (G : PG) (k : Int) : Prop := if V 7 1 0 = 0 then low V s (G k) 1 1 else if V 7 1 0 = 1 then low V s (G k) n 1 else if V 7 1 0 = 2 then low V s (G k) (n - k) 1 else low V s (G k) n (k + 1)
def cuN (V : Vw) (s n : Int) (G : PG) : Nat → Int
  | 0 => 0
  | k + 1 => if cuN V s n G k = k ∧ hold V s n G k then (k : Int) + 1 else cuN V s n G k
def cdN (V : Vw) (s n : Int) (G : PG) : Nat → Int
  | 0 => 0
  | k + 1 => if hold V s n G k then (k : Int) + 1 else cdN V s n G k
def Sc (V : Vw) (s : Int) : Int := if V 7 1 0 = 3 then cdN V s (Rk V s).1 (Rk V s).2 (Rk V s).1.toNat else cuN V s (Rk V s).1 (Rk V s).2 (Rk V s).1.toNat
theorem cuN_p (V : Vw) (s n : Int) (G : PG) (k : Nat) : (0 ≤ cuN V s n G k ∧ cuN V s n G k ≤ k) ∧ (∀ j : Int, 0 ≤ j → j < cuN V s n G k → hold V s n G j) ∧ (cuN V s n G k < k → ¬ hold V s n G (cuN V s n G k)) := by
  induction k with
  | zero => exact ⟨⟨Int.le_refl _, Int.le_refl _⟩, fun j a b => by have : cuN V s n G 0 = 0 := rfl; omega, fun h => by have : cuN V s n G 0 = 0 := rfl; omega⟩
  | succ k ih =>
    obtain ⟨i1, i2, i3⟩ := ih
    unfold cuN
    by_cases c : cuN V s n G k = k ∧ hold V s n G k
    · rw [if_pos c]
      refine ⟨by omega, fun j a b => ?_, fun h => by omega⟩
      by_cases e : j = k
      · rw [e]; exact c.2
      · exact i2 j a (by omega)
    · rw [if_neg c]
      refine ⟨by omega, i2, fun h => ?_⟩
      by_cases e : cuN V s n G k = k
      · rw [e]
        exact fun q => c ⟨e, q⟩
      · exact i3 (by omega)
theorem cdN_p (V : Vw) (s n : Int) (G : PG) (k : Nat) : (0 ≤ cdN V s n G k ∧ cdN V s n G k ≤ k) ∧ (0 < cdN V s n G k → hold V s n G (cdN V s n G k - 1)) ∧ (∀ j : Int, cdN V s n G k ≤ j → j < k → ¬ hold V s n G j) := by
  induction k with
  | zero => exact ⟨⟨Int.le_refl _, Int.le_refl _⟩, fun h => by have : cdN V s n G 0 = 0 := rfl; omega, fun j a b => by have : cdN V s n G 0 = 0 := rfl; omega⟩
  | succ k ih =>
    obtain ⟨i1, i2, i3⟩ := ih
    unfold cdN
    by_cases c : hold V s n G k
    · rw [if_pos c]
      refine ⟨by omega, fun _ => ?_, fun j a b => by omega⟩
      rw [show (k : Int) + 1 - 1 = k by omega]
      exact c
    · rw [if_neg c]
      refine ⟨by omega, i2, fun j a b => ?_⟩
      by_cases e : j = k
      · rw [e]; exact c
      · exact i3 j a (by omega)
theorem cmp_le {a b c d : Int} : cmp4 a b c d ≤ 0 ↔ a * d ≤ c * b := by
  unfold cmp4 sgn
  (repeat' split) <;> omega
theorem cmp_ge {a b c d : Int} : 0 ≤ cmp4 a b c d ↔ c * b ≤ a * d := by
  unfold cmp4 sgn
  (repeat' split) <;> omega
/-- who is less is low too -/
theorem low_mono {V : Vw} (K : okVw V) {s t : Int} {p q : Int × Int} (ht : 0 ≤ t) (h : 0 ≤ cq V s q p) (l : low V s q t 1) : low V s p t 1 := by
  have hp := q_bd (s := s) K p
  have hq := q_bd (s := s) K q
  have h' := cmp_ge.1 h
  have l' := cmp_le.1 l
  refine cmp_le.2 ?_
  have m1 := Int.mul_le_mul_of_nonneg_right h' (show 0 ≤ 1000 * t by omega)
  have m2 := Int.mul_le_mul_of_nonneg_right l' (show 0 ≤ qb V s p by omega)
  have e1 : qo V s q * qb V s p * (1000 * t) = qo V s q * (1000 * t) * qb V s p := Int.mul_right_comm _ _ _
  have e2 : qo V s p * qb V s q * (1000 * t) = qo V s p * (1000 * t) * qb V s q := Int.mul_right_comm _ _ _
  have e3 : V 7 2 0 * 1 * qb V s q * qb V s p = V 7 2 0 * 1 * qb V s p * qb V s q := Int.mul_right_comm _ _ _
  exact Int.le_of_mul_le_mul_right (show qo V s p * (1000 * t) * qb V s q ≤ V 7 2 0 * 1 * qb V s p * qb V s q by omega) (by omega)
/-- by EACH, by FAMILY: those ahead hold too -/
theorem hold_dn {V : Vw} (K : okVw V) {s n : Int} {G : PG} (h : RInv V s (n, G)) (hr : V 7 1 0 = 0 ∨ V 7 1 0 = 1) {k : Int} (hk : 0 ≤ k ∧ k + 1 < n) (l : hold V s n G (k + 1)) : hold V s n G k := by
  have h3 := h.2.2 k hk.1 hk.2
  (try dsimp only at h3)
  unfold hold at l ⊢
  rcases hr with r | r
  · rw [if_pos r] at l ⊢
    exact low_mono K (by omega) h3 l
  · rw [if_neg (by omega), if_pos r] at l ⊢
    exact low_mono K (by have := h.1; (try dsimp only at this); omega) h3 l
theorem hold_dn2 {V : Vw} (K : okVw V) {s n : Int} {G : PG} (h : RInv V s (n, G)) (hr : V 7 1 0 = 0 ∨ V 7 1 0 = 1) (d : Nat) : ∀ k : Int, 0 ≤ k → k + d < n → hold V s n G (k + d) → hold V s n G k := by
  induction d with
  | zero => intro k _ _ l; rw [show k + ((0 : Nat) : Int) = k by omega] at l; exact l
  | succ d ih => intro k k0 k1 l; exact ih k k0 (by omega) (hold_dn K h hr (by omega) (by rw [show k + (d : Int) + 1 = k + ((d + 1 : Nat) : Int) by omega]; exact l))
/-- who is suspect: those of lesser rank than Sc -/
theorem Sc_bd {V : Vw} (K : okVw V) (s : Int) : 0 ≤ Sc V s ∧ Sc V s ≤ (Rk V s).1 := by
  have h0 := (Rk_inv K s).1.1
  have h1 := (cuN_p V s (Rk V s).1 (Rk V s).2 (Rk V s).1.toNat).1
  have h2 := (cdN_p V s (Rk V s).1 (Rk V s).2 (Rk V s).1.toNat).1
  unfold Sc
  split <;> omega
/-- rule 0, 1: just those that hold -/
theorem Sc_01 {V : Vw} (K : okVw V) (s : Int) (hr : V 7 1 0 = 0 ∨ V 7 1 0 = 1) {k : Int} (hk : 0 ≤ k ∧ k < (Rk V s).1) : k < Sc V s ↔ hold V s (Rk V s).1 (Rk V s).2 k := by
  have hi := (Rk_inv K s).1
  have h1 := cuN_p V s (Rk V s).1 (Rk V s).2 (Rk V s).1.toNat
  unfold Sc
  rw [if_neg (by omega)]
  refine ⟨fun h => h1.2.1 k hk.1 h, fun h => ?_⟩
  rcases Int.lt_or_le k (cuN V s (Rk V s).1 (Rk V s).2 (Rk V s).1.toNat) with q | q
  · exact q
  · exfalso
    refine h1.2.2 (by omega) (hold_dn2 (n := (Rk V s).1) (G := (Rk V s).2) K hi hr (k - cuN V s (Rk V s).1 (Rk V s).2 (Rk V s).1.toNat).toNat _ (by omega) (by omega) ?_)
    rw [show cuN V s (Rk V s).1 (Rk V s).2 (Rk V s).1.toNat + ((k - cuN V s (Rk V s).1 (Rk V s).2 (Rk V s).1.toNat).toNat : Int) = k by omega]
    exact h
/-- rule 2: those that hold with all ahead -/
theorem Sc_2 {V : Vw} (K : okVw V) (s : Int) (hr : V 7 1 0 = 2) {k : Int} (hk : 0 ≤ k ∧ k < (Rk V s).1) : k < Sc V s ↔ ∀ j, 0 ≤ j → j ≤ k → hold V s (Rk V s).1 (Rk V s).2 j := by
  have h1 := cuN_p V s (Rk V s).1 (Rk V s).2 (Rk V s).1.toNat
  unfold Sc
  rw [if_neg (by omega)]
  refine ⟨fun h j j0 j1 => h1.2.1 j j0 (by omega), fun h => ?_⟩
  rcases Int.lt_or_le k (cuN V s (Rk V s).1 (Rk V s).2 (Rk V s).1.toNat) with q | q
  · exact q
  · exact absurd (h _ (by omega) q) (h1.2.2 (by omega))
/-- rule 3: those behind which one holds -/
theorem Sc_3 {V : Vw} (K : okVw V) (s : Int) (hr : V 7 1 0 = 3) {k : Int} (hk : 0 ≤ k ∧ k < (Rk V s).1) : k < Sc V s ↔ ∃ j, k ≤ j ∧ j < (Rk V s).1 ∧ hold V s (Rk V s).1 (Rk V s).2 j := by
  have h1 := cdN_p V s (Rk V s).1 (Rk V s).2 (Rk V s).1.toNat
  unfold Sc
  rw [if_pos hr]
  refine ⟨fun h => ⟨_, ?_, ?_, h1.2.1 (by omega)⟩, fun h => ?_⟩
  · omega
  · omega
  · obtain ⟨j, j0, j1, l⟩ := h
    rcases Int.lt_or_le k (cdN V s (Rk V s).1 (Rk V s).2 (Rk V s).1.toNat) with q | q
    · exact q
    · exact absurd l (h1.2.2 j (by omega) (by omega))
