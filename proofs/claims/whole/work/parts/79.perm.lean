/-! PURE: orders of seats, one behind the other -/
def swQ (q : Int → Int) (i j : Int) : Int → Int := fun x => if x = j then q i else if x = i then q j else q x
def pvN (q : Int → Int) : Nat → Int
  | 0 => -1
  | n + 1 => if q ((n : Int) + 1) < q n then pvN q n else n
def sxN (q : Int → Int) (k : Int) : Nat → Int
  | 0 => k
  | n + 1 => if q n < q k then sxN q k n else n
def rvN : Nat → (Int → Int) → Int → Int → Int → Int
  | 0, q, _, _ => q
  | f + 1, q, i, j => if i < j then rvN f (swQ q i j) (i + 1) (j - 1) else q
def pvQ (z : Int) (q : Int → Int) : Int := pvN q (z - 1).toNat
def nxQ (z : Int) (q : Int → Int) : Int → Int := rvN 6 (swQ q (pvQ z q) (sxN q (pvQ z q) z.toNat)) (pvQ z q + 1) (z - 1)
def agQ (z : Int) (p q : Int → Int) : Prop := ∀ x, 0 ≤ x → x < z → p x = q x
theorem pvN_p (q : Int → Int) (n : Nat) : (-1 ≤ pvN q n ∧ pvN q n < n ∨ pvN q n = -1) ∧ (∀ j : Int, pvN q n < j → 0 ≤ j → j < n → q (j + 1) < q j) ∧ (0 ≤ pvN q n → q (pvN q n) ≤ q (pvN q n + 1)) := by
  induction n with
  | zero => exact ⟨Or.inr rfl, fun j a b c => by omega, fun a => by have : pvN q 0 = -1 := rfl; omega⟩
  | succ n ih =>
    obtain ⟨i1, i2, i3⟩ := ih
    unfold pvN
    by_cases c : q ((n : Int) + 1) < q n
    · rw [if_pos c]
      refine ⟨by omega, fun j a b d => ?_, i3⟩
      by_cases e : j = n
      · rw [e]; exact c
      · exact i2 j a b (by omega)
    · rw [if_neg c]
      exact ⟨by omega, fun j a b d => by omega, fun _ => by omega⟩
theorem sxN_p (q : Int → Int) {k : Int} (n : Nat) : (sxN q k n = k ∨ (0 ≤ sxN q k n ∧ sxN q k n < n ∧ q k ≤ q (sxN q k n))) ∧ ∀ j : Int, sxN q k n < j → 0 ≤ j → j < n → (k < j → q j < q k) := by
  induction n with
  | zero => exact ⟨Or.inl rfl, fun j a b c => by omega⟩
  | succ n ih =>
    obtain ⟨i1, i2⟩ := ih
    unfold sxN
    by_cases c : q n < q k
    · rw [if_pos c]
      refine ⟨by omega, fun j a b d e => ?_⟩
      by_cases w : j = n
      · rw [w]; exact c
      · exact i2 j a b (by omega) e
    · rw [if_neg c]
      exact ⟨Or.inr ⟨by omega, by omega, by omega⟩, fun j a b d => by omega⟩
/-- it reads no more than z places -/
theorem pvN_ag {p q : Int → Int} {z : Int} (h : agQ z p q) (n : Nat) (hn : (n : Int) + 1 ≤ z ∨ n = 0) : pvN p n = pvN q n := by
  induction n with
  | zero => rfl
  | succ n ih =>
    unfold pvN
    rw [h ((n : Int) + 1) (by omega) (by omega), h n (by omega) (by omega), ih (by omega)]
theorem sxN_ag {p q : Int → Int} {z k : Int} (h : agQ z p q) (hk : 0 ≤ k ∧ k < z) (n : Nat) (hn : (n : Int) ≤ z) : sxN p k n = sxN q k n := by
  induction n with
  | zero => rfl
  | succ n ih =>
    unfold sxN
    rw [h n (by omega) (by omega), h k hk.1 hk.2, ih (by omega)]
theorem swQ_ag {p q : Int → Int} {z i j : Int} (h : agQ z p q) (hi : 0 ≤ i ∧ i < z) (hj : 0 ≤ j ∧ j < z) : agQ z (swQ p i j) (swQ q i j) := fun x x0 x1 => by
  unfold swQ
  rw [h i hi.1 hi.2, h j hj.1 hj.2, h x x0 x1]
theorem rvN_ag {z : Int} : ∀ (f : Nat) (p q : Int → Int) (i j : Int), agQ z p q → 0 ≤ i → j < z → agQ z (rvN f p i j) (rvN f q i j) := by
  intro f
  induction f with
  | zero => intro p q i j h _ _; exact h
  | succ f ih =>
    intro p q i j h hi hj
    unfold rvN
    by_cases c : i < j
    · rw [if_pos c, if_pos c]
      exact ih _ _ _ _ (swQ_ag h ⟨hi, by omega⟩ ⟨by omega, hj⟩) (by omega) (by omega)
    · rw [if_neg c, if_neg c]
      exact h
theorem pvQ_ag {p q : Int → Int} {z : Int} (h : agQ z p q) : pvQ z p = pvQ z q := pvN_ag h _ (by omega)
theorem pvQ_bd (z : Int) (q : Int → Int) : -1 ≤ pvQ z q ∧ (pvQ z q < z - 1 ∨ pvQ z q = -1) := by
  have := (pvN_p q (z - 1).toNat).1
  unfold pvQ
  omega
theorem nx_sx {z : Int} {q : Int → Int} (hp : 0 ≤ pvQ z q) : pvQ z q < sxN q (pvQ z q) z.toNat ∧ sxN q (pvQ z q) z.toNat < z := by
  have h1 := pvQ_bd z q
  have h2 := sxN_p q (k := pvQ z q) z.toNat
  have h3 := (pvN_p q (z - 1).toNat).2.2 hp
  rcases Int.lt_or_le (pvQ z q) (sxN q (pvQ z q) z.toNat) with c | c
  · exact ⟨c, by omega⟩
  · exfalso
    have := h2.2 (pvQ z q + 1) (by omega) (by omega) (by omega) (by omega)
    unfold pvQ at this h3
    omega
theorem nxQ_ag {p q : Int → Int} {z : Int} (h : agQ z p q) (hp : 0 ≤ pvQ z q) : agQ z (nxQ z p) (nxQ z q) := by
  have h1 := pvQ_bd z q
  have h2 := nx_sx hp
  unfold nxQ
  rw [pvQ_ag h, sxN_ag h ⟨hp, by omega⟩ z.toNat (by omega)]
  exact rvN_ag 6 _ _ _ _ (swQ_ag h ⟨hp, by omega⟩ ⟨by omega, by omega⟩) (by omega) (by omega)
/-! as lists, to be counted -/
def qL (l : List Int) : Int → Int := fun x => l.getD x.toNat 0
def lQ (z : Nat) (q : Int → Int) : List Int := (List.range z).map (fun i : Nat => q (i : Int))
def okL (z : Nat) (l : List Int) : Bool := (List.range z).all (fun i => decide (0 ≤ qL l i ∧ qL l i < z) && (List.range z).all (fun j => decide (i = j ∨ qL l i ≠ qL l j)))
def chk (z : Nat) : Nat → List Int → Bool
  | 0, l => okL z l && decide (pvQ z (qL l) < 0)
  | n + 1, l => okL z l && decide (0 ≤ pvQ z (qL l)) && chk z n (lQ z (nxQ z (qL l)))
def stN (z : Nat) : Nat := [0, 0, 1, 5, 23, 119, 719].getD z 0
set_option maxRecDepth 1000000 in
theorem chk_all : ∀ z : Fin 7, chk z.val (stN z.val) (lQ z.val (fun x => x)) = true := by decide +kernel
theorem qL_lQ {z : Nat} {q : Int → Int} : agQ z (qL (lQ z q)) q := fun x x0 x1 => by
  obtain ⟨k, rfl⟩ : ∃ k : Nat, x = k := ⟨x.toNat, by omega⟩
  unfold qL lQ
  rw [show ((k : Int)).toNat = k by omega, List.getD_eq_getElem?_getD, List.getElem?_map, List.getElem?_range (by omega)]
  rfl
theorem okL_p {z : Nat} {l : List Int} (h : okL z l = true) : (∀ i : Int, 0 ≤ i → i < z → 0 ≤ qL l i ∧ qL l i < z) ∧ ∀ i j : Int, 0 ≤ i → i < z → 0 ≤ j → j < z → i ≠ j → qL l i ≠ qL l j := by
  have key : ∀ i : Nat, i < z → (0 ≤ qL l i ∧ qL l i < z) ∧ ∀ j : Nat, j < z → i = j ∨ qL l i ≠ qL l j := fun i hi => by
    have h1 := List.all_eq_true.mp h i (List.mem_range.mpr hi)
    rw [Bool.and_eq_true] at h1
    refine ⟨of_decide_eq_true h1.1, fun j hj => ?_⟩
    exact of_decide_eq_true (List.all_eq_true.mp h1.2 j (List.mem_range.mpr hj))
  refine ⟨fun i i0 i1 => ?_, fun i j i0 i1 j0 j1 n => ?_⟩
  · have := (key i.toNat (by omega)).1
    rw [show ((i.toNat : Nat) : Int) = i by omega] at this
    exact this
  · have := (key i.toNat (by omega)).2 j.toNat (by omega)
    rw [show ((i.toNat : Nat) : Int) = i by omega, show ((j.toNat : Nat) : Int) = j by omega] at this
    exact this.resolve_left (by omega)
/-- a row of seats in the course of orders: so many more to come -/
def inQ (z : Nat) (n : Nat) (l : List Int) (q : Int → Int) : Prop := chk z n l = true ∧ agQ z q (qL l)
theorem inQ_ok {z n : Nat} {l : List Int} {q : Int → Int} (h : inQ z n l q) : (∀ i : Int, 0 ≤ i → i < z → 0 ≤ q i ∧ q i < z) ∧ ∀ i j : Int, 0 ≤ i → i < z → 0 ≤ j → j < z → i ≠ j → q i ≠ q j := by
  have ho : okL z l = true := by
    have := h.1
    cases n with
    | zero => unfold chk at this; rw [Bool.and_eq_true] at this; exact this.1
    | succ n => unfold chk at this; rw [Bool.and_eq_true, Bool.and_eq_true] at this; exact this.1.1
  have hp := okL_p ho
  refine ⟨fun i i0 i1 => ?_, fun i j i0 i1 j0 j1 n => ?_⟩
  · rw [h.2 i i0 i1]
    exact hp.1 i i0 i1
  · rw [h.2 i i0 i1, h.2 j j0 j1]
    exact hp.2 i j i0 i1 j0 j1 n
theorem inQ_0 {z : Nat} {l : List Int} {q : Int → Int} (h : inQ z 0 l q) : pvQ z q < 0 := by
  have := h.1
  unfold chk at this
  rw [Bool.and_eq_true] at this
  rw [pvQ_ag h.2]
  exact of_decide_eq_true this.2
theorem inQ_s {z n : Nat} {l : List Int} {q : Int → Int} (h : inQ z (n + 1) l q) : 0 ≤ pvQ z q ∧ inQ z n (lQ z (nxQ z (qL l))) (nxQ z q) := by
  have h1 := h.1
  unfold chk at h1
  rw [Bool.and_eq_true, Bool.and_eq_true] at h1
  have h2 : 0 ≤ pvQ z (qL l) := of_decide_eq_true h1.1.2
  refine ⟨by rw [pvQ_ag h.2]; exact h2, h1.2, fun x x0 x1 => ?_⟩
  rw [nxQ_ag h.2 h2 x x0 x1]
  exact (qL_lQ x x0 x1).symm
theorem inQ_b {z : Nat} (hz : z ≤ 6) {q : Int → Int} (h : ∀ x, 0 ≤ x → x < (z : Int) → q x = x) : inQ z (stN z) (lQ z (fun x => x)) q := by
  refine ⟨chk_all ⟨z, by omega⟩, fun x x0 x1 => ?_⟩
  rw [qL_lQ x x0 x1]
  exact h x x0 x1
theorem stN_bd {z : Nat} (hz : z ≤ 6) : stN z + 1 ≤ 720 := by
  have h : ∀ z : Fin 7, stN z.val + 1 ≤ 720 := by decide
  exact h ⟨z, by omega⟩
section Nx
variable {h : HP} {z : Int}
theorem X_swap {i j : Int} (hi : 0 ≤ i ∧ i < 6) (hj : 0 ≤ j ∧ j < 6) : ∃ h1, m_Seating_swap 108 i j h = some h1 ∧ h1 110 = swQ (h 110) i j ∧ ∀ p, p ≠ 110 → h1 p = h p := by
  unfold m_Seating_swap
  simp only [Int.reduceAdd, bv_some]
  rw [if_pos hi, if_pos hj, if_pos hi, if_pos hj]
  refine ⟨_, rfl, ?_, fun p n => ?_⟩
  · funext x
    unfold upd2 swQ
    (try dsimp only)
    (repeat' split) <;> first | rfl | (exfalso; omega)
  · funext x
    rw [upd2_np _ n, upd2_np _ n]
theorem M_exchange {i j : Int} (hi : 0 ≤ i ∧ i < 6) (hj : 0 ≤ j ∧ j < 6) : ∃ h1, m_Md_exchange 126 i j h = some h1 ∧ h1 151 = swQ (h 151) i j ∧ ∀ p, p ≠ 151 → h1 p = h p := by
  unfold m_Md_exchange
  simp only [Int.reduceAdd, bv_some]
  rw [if_pos hi, if_pos hj, if_pos hi, if_pos hj]
  refine ⟨_, rfl, ?_, fun p n => ?_⟩
  · funext x
    unfold upd2 swQ
    (try dsimp only)
    (repeat' split) <;> first | rfl | (exfalso; omega)
  · funext x
    rw [upd2_np _ n, upd2_np _ n]
theorem X_rev : ∀ (f N : Nat) (g : HP) (i j : Int), 0 ≤ i → j < 6 → j - i < 2 * f → f < N → ∃ h1, loopO (fun s : Int × Int × HP => m_Seating_nextWay_L91b 108 s.1 s.2.1 s.2.2) N (i, j, g) = some (1, h1) ∧ h1 110 = rvN f (g 110) i j ∧ ∀ p, p ≠ 110 → h1 p = g p := by
  intro f
  induction f with
  | zero =>
    intro N g i j hi hj hf hN
    obtain ⟨M, rfl⟩ : ∃ M, N = M + 1 := ⟨N - 1, by omega⟩
    refine ⟨g, ?_, rfl, fun p _ => rfl⟩
    unfold loopO
    (try dsimp only)
    unfold m_Seating_nextWay_L91b
    rw [if_pos (by omega)]
  | succ f ih =>
    intro N g i j hi hj hf hN
    obtain ⟨M, rfl⟩ : ∃ M, N = M + 1 := ⟨N - 1, by omega⟩
    unfold rvN
    by_cases c : i < j
    · obtain ⟨g1, e1, q1, q2⟩ := X_swap (h := g) (i := i) (j := j) (by omega) (by omega)
      obtain ⟨g2, e2, r1, r2⟩ := ih M g1 (i + 1) (j - 1) (by omega) (by omega) (by omega) (by omega)
      have st : m_Seating_nextWay_L91b 108 i j g = some (.inl (i + 1, j - 1, g1)) := by
        unfold m_Seating_nextWay_L91b
        rw [if_neg (by omega), e1, w32_id (by omega) (by omega), w32_id (by omega) (by omega)]
        rfl
      refine ⟨g2, ?_, ?_, fun p n => (r2 p n).trans (q2 p n)⟩
      · unfold loopO
        (try dsimp only)
        rw [st]
        exact e2
      · rw [if_pos c, r1, q1]
    · refine ⟨g, ?_, by rw [if_neg c], fun p _ => rfl⟩
      unfold loopO
      (try dsimp only)
      unfold m_Seating_nextWay_L91b
      rw [if_pos (by omega)]
theorem M_rev : ∀ (f N : Nat) (g : HP) (i j : Int), 0 ≤ i → j < 6 → j - i < 2 * f → f < N → ∃ h1, loopO (fun s : Int × Int × HP => m_Md_turns_L86b 126 s.1 s.2.1 s.2.2) N (j, i, g) = some (1, h1) ∧ h1 151 = rvN f (g 151) i j ∧ ∀ p, p ≠ 151 → h1 p = g p := by
  intro f
  induction f with
  | zero =>
    intro N g i j hi hj hf hN
    obtain ⟨M, rfl⟩ : ∃ M, N = M + 1 := ⟨N - 1, by omega⟩
    refine ⟨g, ?_, rfl, fun p _ => rfl⟩
    unfold loopO
    (try dsimp only)
    unfold m_Md_turns_L86b
    rw [if_pos (by omega)]
  | succ f ih =>
    intro N g i j hi hj hf hN
    obtain ⟨M, rfl⟩ : ∃ M, N = M + 1 := ⟨N - 1, by omega⟩
    unfold rvN
    by_cases c : i < j
    · obtain ⟨g1, e1, q1, q2⟩ := M_exchange (h := g) (i := i) (j := j) (by omega) (by omega)
      obtain ⟨g2, e2, r1, r2⟩ := ih M g1 (i + 1) (j - 1) (by omega) (by omega) (by omega) (by omega)
      have st : m_Md_turns_L86b 126 j i g = some (.inl (j - 1, i + 1, g1)) := by
        unfold m_Md_turns_L86b
        rw [if_neg (by omega), e1, w32_id (by omega) (by omega), w32_id (by omega) (by omega)]
        rfl
      refine ⟨g2, ?_, ?_, fun p n => (r2 p n).trans (q2 p n)⟩
      · unfold loopO
        (try dsimp only)
        rw [st]
        exact e2
      · rw [if_pos c, r1, q1]
    · refine ⟨g, ?_, by rw [if_neg c], fun p _ => rfl⟩
      unfold loopO
      (try dsimp only)
      unfold m_Md_turns_L86b
      rw [if_pos (by omega)]
theorem X_nextWay (hz : 0 ≤ z ∧ z ≤ 6) (h0 : h 108 0 = z) : (pvQ z (h 110) < 0 → m_Seating_nextWay 108 h = some (0, h)) ∧ (0 ≤ pvQ z (h 110) → ∃ h1, m_Seating_nextWay 108 h = some (1, h1) ∧ h1 110 = nxQ z (h 110) ∧ ∀ p, p ≠ 110 → h1 p = h p) := by
  have hb := pvQ_bd z (h 110)
  have hp := pvN_p (h 110) (z - 1).toNat
  have start : ∀ x, m_Seating_nextWay_J34 108 (if z = 0 then -2 else pvQ z (h 110)) h = some x → m_Seating_nextWay 108 h = some x := fun x hx => by
    unfold m_Seating_nextWay m_Seating_nextWay_L7
    rw [h0, w32_id (by omega) (by omega)]
    simp only [bv_some]
    refine loop_seq (fun d => z - 2 - d) 0 (z - 2 - (if z = 0 then -2 else pvQ z (h 110))) (by split <;> omega) (by split <;> omega) (by rw [Int.sub_zero]) (fun d d0 d1 => ?_) ?_
    · have hz0 : ¬ z = 0 := fun e => by rw [if_pos e] at d1; omega
      rw [if_neg hz0] at d1
      (try dsimp only)
      unfold m_Seating_nextWay_L7b
      have lt := hp.2.1 (z - 2 - d) (by unfold pvQ at d1; omega) (by omega) (by omega)
      simp only [Int.reduceAdd]
      rw [if_neg (by omega), if_pos (by omega), w32_id (x := z - 2 - d + 1) (by omega) (by omega), if_pos (by omega), if_neg (by omega), w32_id (by omega) (by omega), show z - 2 - d + -1 = z - 2 - (d + 1) by omega]
    · rw [show z - 2 - (z - 2 - (if z = 0 then -2 else pvQ z (h 110))) = (if z = 0 then -2 else pvQ z (h 110)) by omega]
      unfold m_Seating_nextWay_L7b
      by_cases c : (if z = 0 then -2 else pvQ z (h 110)) < 0
      · rw [if_pos c, hx]
        rfl
      · have hz0 : ¬ z = 0 := fun e => by rw [if_pos e] at c; omega
        rw [if_neg hz0] at c hx ⊢
        have le := hp.2.2 (by unfold pvQ at c; omega)
        have e1 : pvN (h 110) (z - 1).toNat = pvQ z (h 110) := rfl
        rw [e1] at le
        simp only [Int.reduceAdd]
        rw [if_neg c, if_pos (by omega), w32_id (x := pvQ z (h 110) + 1) (by omega) (by omega), if_pos (by omega), if_pos le, hx]
        rfl
  constructor
  · intro hn
    refine start _ ?_
    unfold m_Seating_nextWay_J34
    rw [if_neg (by split <;> omega)]
  · intro hn
    have hz0 : ¬ z = 0 := fun e => by
      have : pvQ z (h 110) = -1 := by
        rw [e]
        rfl
      omega
    obtain ⟨k, hk⟩ : ∃ k, k = pvQ z (h 110) := ⟨_, rfl⟩
    have hs := nx_sx hn
    have hs2 := sxN_p (h 110) (k := pvQ z (h 110)) z.toNat
    rw [← hk] at hs hs2 hn hb
    obtain ⟨l, hl⟩ : ∃ l, l = sxN (h 110) k z.toNat := ⟨_, rfl⟩
    rw [← hl] at hs hs2
    obtain ⟨g1, e1, q1, q2⟩ := X_swap (h := h) (i := k) (j := l) (by omega) (by omega)
    obtain ⟨g2, e2, r1, r2⟩ := X_rev 6 FUEL g1 (k + 1) (z - 1) (by omega) (by omega) (by omega) (by unfold FUEL; omega)
    refine ⟨g2, start _ ?_, ?_, fun p n => (r2 p n).trans (q2 p n)⟩
    · rw [if_neg hz0, ← hk]
      unfold m_Seating_nextWay_J34 m_Seating_nextWay_L47
      rw [if_pos hn, h0, w32_id (by omega) (by omega)]
      simp only [bv_some]
      refine loop_seq (fun d => z - 1 - d) 0 (z - 1 - l) (by omega) (by omega) (by rw [Int.sub_zero]) (fun d d0 d1 => ?_) ?_
      · (try dsimp only)
        unfold m_Seating_nextWay_L47b
        have lt := hs2.2 (z - 1 - d) (by omega) (by omega) (by omega) (by omega)
        simp only [Int.reduceAdd]
        rw [if_neg (by omega), if_pos (by omega), if_pos (by omega), if_neg (by omega), w32_id (by omega) (by omega), show z - 1 - d + -1 = z - 1 - (d + 1) by omega]
      · rw [show z - 1 - (z - 1 - l) = l by omega]
        unfold m_Seating_nextWay_L47b m_Seating_nextWay_J73 m_Seating_nextWay_L91
        have le : h 110 k ≤ h 110 l := by
          rcases hs2.1 with w | w
          · omega
          · exact w.2.2
        simp only [Int.reduceAdd]
        rw [if_neg (by omega), if_pos (by omega), if_pos (by omega), if_pos le, e1]
        simp only [b1_some, bv_some]
        have g10 : g1 108 0 = z := by
          rw [q2 108 (by omega)]
          exact h0
        rw [g10, w32_id (x := k + 1) (by omega) (by omega), w32_id (x := z - 1) (by omega) (by omega), e2]
        rfl
    · rw [r1, q1]
      unfold nxQ
      rw [← hk, ← hl]
theorem M_turns (hz : 0 ≤ z ∧ z ≤ 6) (h0 : h 126 38 = z) : (pvQ z (h 151) < 0 → m_Md_turns 126 h = some (0, h)) ∧ (0 ≤ pvQ z (h 151) → ∃ h1, m_Md_turns 126 h = some (1, h1) ∧ h1 151 = nxQ z (h 151) ∧ ∀ p, p ≠ 151 → h1 p = h p) := by
  have hb := pvQ_bd z (h 151)
  have hp := pvN_p (h 151) (z - 1).toNat
  have start : ∀ x, m_Md_turns_J34 126 (if z = 0 then -2 else pvQ z (h 151)) h = some x → m_Md_turns 126 h = some x := fun x hx => by
    unfold m_Md_turns m_Md_turns_L7
    rw [h0, w32_id (by omega) (by omega)]
    simp only [bv_some]
    refine loop_seq (fun d => z - 2 - d) 0 (z - 2 - (if z = 0 then -2 else pvQ z (h 151))) (by split <;> omega) (by split <;> omega) (by rw [Int.sub_zero]) (fun d d0 d1 => ?_) ?_
    · have hz0 : ¬ z = 0 := fun e => by rw [if_pos e] at d1; omega
      rw [if_neg hz0] at d1
      (try dsimp only)
      unfold m_Md_turns_L7b
      have lt := hp.2.1 (z - 2 - d) (by unfold pvQ at d1; omega) (by omega) (by omega)
      simp only [Int.reduceAdd]
      rw [if_neg (by omega), if_pos (by omega), w32_id (x := z - 2 - d + 1) (by omega) (by omega), if_pos (by omega), if_neg (by omega), w32_id (by omega) (by omega), show z - 2 - d + -1 = z - 2 - (d + 1) by omega]
    · rw [show z - 2 - (z - 2 - (if z = 0 then -2 else pvQ z (h 151))) = (if z = 0 then -2 else pvQ z (h 151)) by omega]
      unfold m_Md_turns_L7b
      by_cases c : (if z = 0 then -2 else pvQ z (h 151)) < 0
      · rw [if_pos c, hx]
        rfl
      · have hz0 : ¬ z = 0 := fun e => by rw [if_pos e] at c; omega
        rw [if_neg hz0] at c hx ⊢
        have le := hp.2.2 (by unfold pvQ at c; omega)
        have e1 : pvN (h 151) (z - 1).toNat = pvQ z (h 151) := rfl
        rw [e1] at le
        simp only [Int.reduceAdd]
        rw [if_neg c, if_pos (by omega), w32_id (x := pvQ z (h 151) + 1) (by omega) (by omega), if_pos (by omega), if_pos le, hx]
        rfl
  constructor
  · intro hn
    refine start _ ?_
    unfold m_Md_turns_J34
    rw [if_neg (by split <;> omega)]
  · intro hn
    have hz0 : ¬ z = 0 := fun e => by
      have : pvQ z (h 151) = -1 := by
        rw [e]
        rfl
      omega
    obtain ⟨k, hk⟩ : ∃ k, k = pvQ z (h 151) := ⟨_, rfl⟩
    have hs := nx_sx hn
    have hs2 := sxN_p (h 151) (k := pvQ z (h 151)) z.toNat
    rw [← hk] at hs hs2 hn hb
    obtain ⟨l, hl⟩ : ∃ l, l = sxN (h 151) k z.toNat := ⟨_, rfl⟩
    rw [← hl] at hs hs2
    obtain ⟨g1, e1, q1, q2⟩ := M_exchange (h := h) (i := k) (j := l) (by omega) (by omega)
    obtain ⟨g2, e2, r1, r2⟩ := M_rev 6 FUEL g1 (k + 1) (z - 1) (by omega) (by omega) (by omega) (by unfold FUEL; omega)
    refine ⟨g2, start _ ?_, ?_, fun p n => (r2 p n).trans (q2 p n)⟩
    · rw [if_neg hz0, ← hk]
      unfold m_Md_turns_J34 m_Md_turns_L47
      rw [if_pos hn, h0, w32_id (by omega) (by omega)]
      simp only [bv_some]
      refine loop_seq (fun d => z - 1 - d) 0 (z - 1 - l) (by omega) (by omega) (by rw [Int.sub_zero]) (fun d d0 d1 => ?_) ?_
      · (try dsimp only)
        unfold m_Md_turns_L47b
        have lt := hs2.2 (z - 1 - d) (by omega) (by omega) (by omega) (by omega)
        simp only [Int.reduceAdd]
        rw [if_pos (by omega), if_pos (by omega), if_neg (by omega), w32_id (by omega) (by omega), show z - 1 - d + -1 = z - 1 - (d + 1) by omega]
      · rw [show z - 1 - (z - 1 - l) = l by omega]
        unfold m_Md_turns_L47b m_Md_turns_J68 m_Md_turns_L86
        have le : h 151 k ≤ h 151 l := by
          rcases hs2.1 with w | w
          · omega
          · exact w.2.2
        simp only [Int.reduceAdd]
        rw [if_pos (by omega), if_pos (by omega), if_pos le, e1]
        simp only [b1_some, bv_some]
        have g10 : g1 126 38 = z := by
          rw [q2 126 (by omega)]
          exact h0
        rw [g10, w32_id (x := k + 1) (by omega) (by omega), w32_id (x := z - 1) (by omega) (by omega), e2]
        rfl
    · rw [r1, q1]
      unfold nxQ
      rw [← hk, ← hl]
end Nx
