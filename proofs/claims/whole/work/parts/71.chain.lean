/-! PURE: chains -/
def rdN (L : Int → Int) (s : Int) : Nat → Int
  | 0 => s
  | c + 1 => if (rdN L s c).toNat.testBit c = true then iOr (rdN L s c) (L c) else rdN L s c
def vNc (L : Int → Int) (c : Int) : Nat → Int
  | 0 => iShl 1 c
  | k + 1 => rdN L (vNc L c k) 8
theorem rdN_p {m : Int} {L : Int → Int} (hL : Lok m L) {s : Int} (hs : is8 s) (n : Nat) (hn : n ≤ 8) : is8 (rdN L s n) ∧ (∀ d, bt s d → bt (rdN L s n) d) ∧ ((∀ d, 0 ≤ d → m ≤ d → ¬ bt s d) → ∀ d, 0 ≤ d → m ≤ d → ¬ bt (rdN L s n) d) := by
  induction n with
  | zero => exact ⟨hs, fun d q => q, fun q => q⟩
  | succ n ih =>
    obtain ⟨i1, i2, i3⟩ := ih (by omega)
    have l := hL n (by omega) (by omega)
    have oo := is8_or i1 l.1
    unfold rdN
    split
    · refine ⟨oo.1, fun d q => (oo.2 d).2 (Or.inl (i2 d q)), fun q d d0 hd w => ?_⟩
      rcases (oo.2 d).1 w with w | w
      · exact i3 q d d0 hd w
      · rcases Int.lt_or_le d 8 with d8 | d8
        · have := l.2.2 d d0 d8 w
          omega
        · exact is8_hi l.1 d8 w
    · exact ⟨i1, i2, i3⟩
theorem rdN_hi {m : Int} {L : Int → Int} (hm : 0 ≤ m ∧ m ≤ 8) (hL : Lok m L) {s : Int} (hs : is8 s) (hlo : ∀ d, 0 ≤ d → m ≤ d → ¬ bt s d) (d : Nat) : m.toNat + d ≤ 8 → rdN L s (m.toNat + d) = rdN L s m.toNat := by
  induction d with
  | zero => intro _; rfl
  | succ d ih =>
    intro hd
    show (if (rdN L s (m.toNat + d)).toNat.testBit (m.toNat + d) = true then iOr (rdN L s (m.toNat + d)) (L ((m.toNat + d : Nat) : Int)) else rdN L s (m.toNat + d)) = _
    have q := (rdN_p hL hs (m.toNat + d) (by omega)).2.2 hlo ((m.toNat + d : Nat) : Int) (by omega) (by omega)
    unfold bt at q
    rw [show (((m.toNat + d : Nat) : Int)).toNat = m.toNat + d by omega] at q
    rw [if_neg q]
    exact ih (by omega)
/-- more bits, if another set -/
theorem pc_lt {x y : Int} (hx : is8 x) (hy : is8 y) (h : ∀ d, bt x d → bt y d) (hn : x ≠ y) : pc x < pc y := by
  have q : ∃ d, 0 ≤ d ∧ d < 8 ∧ bt y d ∧ ¬ bt x d := by
    apply Classical.byContradiction
    intro w
    refine hn (is8_ext hx hy (fun d d0 d1 => ⟨h d, fun b => ?_⟩))
    apply Classical.byContradiction
    intro nb
    exact w ⟨d, d0, d1, b, nb⟩
  obtain ⟨d, d0, d1, b, nb⟩ := q
  have e : ∀ n : Nat, n ≤ 8 → Sm (fun i => if x.toNat.testBit i.toNat = true then 1 else 0) n + (if d < n then 1 else 0) ≤ Sm (fun i => if y.toNat.testBit i.toNat = true then 1 else 0) n := by
    intro n
    induction n with
    | zero => intro _; rw [show ((0 : Nat) : Int) = 0 from rfl, Sm_0, Sm_0, if_neg (by omega)]; omega
    | succ n ih =>
      intro hn
      have i1 := ih (by omega)
      rw [show ((n + 1 : Nat) : Int) = (n : Int) + 1 by omega, Sm_s _ (by omega), Sm_s _ (by omega)]
      (try dsimp only)
      have hh := h (n : Int)
      unfold bt at hh
      by_cases e : d = n
      · have nb' : ¬ x.toNat.testBit (n : Int).toNat = true := by rw [← e]; exact nb
        have b' : y.toNat.testBit (n : Int).toNat = true := by rw [← e]; exact b
        rw [if_neg nb', if_pos b', if_pos (by omega)]
        rw [if_neg (by omega)] at i1
        omega
      · by_cases c1 : x.toNat.testBit (n : Int).toNat = true
        · rw [if_pos c1, if_pos (hh c1)]
          (repeat' split at i1) <;> (repeat' split) <;> omega
        · rw [if_neg c1]
          (repeat' split at i1) <;> (repeat' split) <;> omega
  have := e 8 (by omega)
  rw [if_pos (by omega)] at this
  unfold pc
  have e8 : ((8 : Nat) : Int) = 8 := rfl
  rw [e8] at this
  omega
section Ch
variable {h : HP} {L : Int → Int} {m c : Int}
theorem vNc_p (hm : 0 ≤ m ∧ m ≤ 8) (hL : Lok m L) (hc : 0 ≤ c ∧ c < m) (k : Nat) : is8 (vNc L c k) ∧ bt (vNc L c k) c ∧ ∀ d, 0 ≤ d → m ≤ d → ¬ bt (vNc L c k) d := by
  have sc := is8_sh (c := c) (by omega)
  induction k with
  | zero => exact ⟨sc.1, (sc.2 c hc.1).2 rfl, fun d d0 d1 q => by have := (sc.2 d d0).1 q; omega⟩
  | succ k ih =>
    have p := rdN_p hL ih.1 8 (by omega)
    exact ⟨p.1, p.2.1 c ih.2.1, p.2.2 ih.2.2⟩
theorem X_round {o r s : Int} (hL : Lok m L) (hs : is8 s) (hr : ∀ c, 0 ≤ c → c < 8 → h (o + 1) c = L c) (h0 : 0 ≤ r ∧ r < 8) : m_Links_reachedFrom_L15 o r h (s, 0) = some (.inl (rdN L s 8, r + 1)) := by
  unfold m_Links_reachedFrom_L15
  refine loop_seq (fun k => (rdN L s k.toNat, k)) 0 8 (by omega) (by omega) rfl (fun k k0 k1 => ?_) ?_
  · have p := rdN_p hL hs k.toNat (by omega)
    have es : rdN L s (k + 1).toNat = if (rdN L s k.toNat).toNat.testBit k.toNat = true then iOr (rdN L s k.toNat) (L k) else rdN L s k.toNat := by
      rw [show (k + 1).toNat = k.toNat + 1 by omega]
      show (if (rdN L s k.toNat).toNat.testBit k.toNat = true then iOr (rdN L s k.toNat) (L (k.toNat : Int)) else rdN L s k.toNat) = _
      rw [show ((k.toNat : Nat) : Int) = k by omega]
    (try dsimp only)
    unfold m_Links_reachedFrom_L15b
    rw [if_neg (by omega), hr k k0 k1, w32_id (by omega) (by omega), es]
    rcases bit_get p.1 ⟨k0, k1⟩ with ⟨b, eb⟩ | ⟨b, eb⟩
    · unfold bt at b
      rw [if_neg (by omega), if_pos ⟨k0, k1⟩, if_pos b]
      rfl
    · unfold bt at b
      rw [if_pos eb, if_neg b]
  · (try dsimp only)
    unfold m_Links_reachedFrom_L15b
    rw [if_pos (by omega), w32_id (by omega) (by omega)]
    rfl
theorem X_reached {o : Int} (hm : 0 ≤ m ∧ m ≤ 8) (hL : Lok m L) (hr : ∀ c, 0 ≤ c → c < 8 → h (o + 1) c = L c) (hc : 0 ≤ c ∧ c < m) : m_Links_reachedFrom o c h = some (vNc L c 8) := by
  unfold m_Links_reachedFrom m_Links_reachedFrom_L6
  simp only [bv_some]
  refine loop_seq (fun k => (vNc L c k.toNat, k)) 0 8 (by omega) (by omega) rfl (fun k k0 k1 => ?_) ?_
  · have p := vNc_p hm hL hc k.toNat
    (try dsimp only)
    unfold m_Links_reachedFrom_L6b
    rw [if_neg (by omega), X_round hL p.1 hr ⟨k0, k1⟩, show (k + 1).toNat = k.toNat + 1 by omega]
    rfl
  · (try dsimp only)
    unfold m_Links_reachedFrom_L6b
    rw [if_pos (by omega)]
    rfl
theorem M_round {s : Int} (hm : 0 ≤ m ∧ m ≤ 8) (h1 : h 126 1 = m) (hL : Lok m L) (hs : is8 s) (hlo : ∀ d, 0 ≤ d → m ≤ d → ¬ bt s d) (hr : ∀ c, 0 ≤ c → c < 8 → h 149 c = L c) : m_Md_chain_L30 126 s h (s, 0) = some (.inl (rdN L s 8, s)) := by
  have e8 := rdN_hi hm hL hs hlo (8 - m.toNat) (by omega)
  rw [show m.toNat + (8 - m.toNat) = 8 by omega] at e8
  rw [e8]
  unfold m_Md_chain_L30
  refine loop_seq (fun k => (rdN L s k.toNat, k)) 0 m (by omega) (by omega) rfl (fun k k0 k1 => ?_) ?_
  · have p := rdN_p hL hs k.toNat (by omega)
    have es : rdN L s (k + 1).toNat = if (rdN L s k.toNat).toNat.testBit k.toNat = true then iOr (rdN L s k.toNat) (L k) else rdN L s k.toNat := by
      rw [show (k + 1).toNat = k.toNat + 1 by omega]
      show (if (rdN L s k.toNat).toNat.testBit k.toNat = true then iOr (rdN L s k.toNat) (L (k.toNat : Int)) else rdN L s k.toNat) = _
      rw [show ((k.toNat : Nat) : Int) = k by omega]
    have e9 := hr k k0 (by omega)
    (try dsimp only)
    unfold m_Md_chain_L30b
    simp only [Int.reduceAdd]
    rw [h1, if_neg (by omega), e9, w32_id (by omega) (by omega), es, iOr_0 p.1]
    rcases bit_get p.1 ⟨k0, by omega⟩ with ⟨b, eb⟩ | ⟨b, eb⟩
    · unfold bt at b
      rw [if_pos eb, if_pos (by omega), if_pos b]
      rfl
    · unfold bt at b
      rw [if_neg (by omega), if_neg b]
      rfl
  · (try dsimp only)
    unfold m_Md_chain_L30b
    rw [h1, if_pos (by omega)]
theorem M_chain (hm : 0 ≤ m ∧ m ≤ 8) (h1 : h 126 1 = m) (hL : Lok m L) (hr : ∀ c, 0 ≤ c → c < 8 → h 149 c = L c) (hc : 0 ≤ c ∧ c < m) : m_Md_chain_L20 126 h (iShl 1 c, 0) = some (vNc L c 8, h) := by
  have hp := fun k => vNc_p hm hL hc k
  unfold m_Md_chain_L20
  suffices key : ∃ r, loopO (fun s : Int × Int => m_Md_chain_L20b 126 h s.1 s.2) FUEL (iShl 1 c, 0) = some r ∧ r = (vNc L c 8, h) by
    obtain ⟨r, e, q⟩ := key
    rw [e, q]
  refine loopO_inv (fun s : Int × Int => is8 s.2 ∧ ∃ k : Nat, s.1 = vNc L c k ∧ ((k = 0 ∧ s.2 = 0) ∨ (0 < k ∧ s.2 = vNc L c (k - 1))) ∧ (k : Int) ≤ pc s.2) (fun s => (9 - pc s.2).toNat) _ (fun s hI => ?_) FUEL _ ⟨is8_0.1, 0, rfl, Or.inl ⟨rfl, rfl⟩, by have := pc_bd 0; (try dsimp only); omega⟩ ?_
  · obtain ⟨set, was⟩ := s
    obtain ⟨hw8, k, e1, e2, e3⟩ := hI
    (try dsimp only at hw8 e1 e2 e3 ⊢)
    have hb := pc_bd was
    unfold m_Md_chain_L20b
    by_cases c0 : set = was
    · rw [if_pos c0]
      refine Or.inr ⟨_, rfl, ?_⟩
      rcases e2 with ⟨k0, w0⟩ | ⟨k0, w0⟩
      · exfalso
        have := (hp 0).2.1
        rw [k0] at e1
        rw [← e1, c0, w0] at this
        exact is8_0.2 c this
      · have st : ∀ d : Nat, vNc L c (k - 1 + d) = vNc L c (k - 1) := by
          intro d
          induction d with
          | zero => rfl
          | succ d ih =>
            show rdN L (vNc L c (k - 1 + d)) 8 = _
            rw [ih]
            have : vNc L c k = rdN L (vNc L c (k - 1)) 8 := by
              rw [show k = (k - 1) + 1 by omega]
              rfl
            rw [← this, ← e1, c0, w0]
        have := st (8 - (k - 1))
        rw [show k - 1 + (8 - (k - 1)) = 8 by omega] at this
        rw [this, c0, w0]
    · rw [if_neg c0]
      have p := hp k
      rw [← e1] at p
      rw [M_round hm h1 hL p.1 p.2.2 hr]
      refine Or.inl ⟨_, rfl, ⟨p.1, k + 1, by rw [e1]; rfl, Or.inr ⟨by omega, by (try dsimp only); rw [show k + 1 - 1 = k by omega]; exact e1⟩, ?_⟩, ?_⟩
      · have lt : pc was < pc set := by
          refine pc_lt hw8 p.1 (fun d b => ?_) (fun q => c0 q.symm)
          rcases e2 with ⟨k0, w0⟩ | ⟨k0, w0⟩
          · rw [w0] at b
            exact absurd b (is8_0.2 d)
          · have : vNc L c k = rdN L (vNc L c (k - 1)) 8 := by
              rw [show k = (k - 1) + 1 by omega]
              rfl
            rw [e1, this, ← w0]
            exact (rdN_p hL hw8 8 (by omega)).2.1 d b
        (try dsimp only)
        omega
      · have lt : pc was < pc set := by
          refine pc_lt hw8 p.1 (fun d b => ?_) (fun q => c0 q.symm)
          rcases e2 with ⟨k0, w0⟩ | ⟨k0, w0⟩
          · rw [w0] at b
            exact absurd b (is8_0.2 d)
          · have : vNc L c k = rdN L (vNc L c (k - 1)) 8 := by
              rw [show k = (k - 1) + 1 by omega]
              rfl
            rw [e1, this, ← w0]
            exact (rdN_p hL hw8 8 (by omega)).2.1 d b
        (try dsimp only)
        omega
  · have := pc_bd 0
    (try dsimp only)
    unfold FUEL
    omega
end Ch
theorem A_chain (x : Int) : AA (m_Cb_chain 0 x) (m_Md_chain 126 x) := by
  rintro h ⟨V, R⟩
  obtain ⟨X, M, K, I, T, P⟩ := id R
  have hm := K.m
  have hSc := Sc_bd K (V 7 0 0)
  unfold m_Cb_chain m_Md_chain
  simp only [Int.zero_add, X_hasCandidate X, b1_some, if10]
  by_cases c : 0 ≤ x ∧ x < V 0 1 0
  · obtain ⟨h1, e1, r1, l1, f1⟩ := X_linkNow X K
    have R1 : Rl h1 V := Rl_fr f1 R
    obtain ⟨h2, e2, r2, l2, f2⟩ := M_binds R1.2.1 K
    have R2 : Rl h2 V := Rl_fr f2 R1
    have lo := Lkd_ok K hSc.2 l1
    refine ⟨vNc (h1 107) x 8, h1, h2, ?_, ?_, V, R2⟩
    · rw [if_pos c, e1]
      simp only [b1_some]
      rw [X_reached (o := 106) hm lo (fun c _ _ => rfl) c]
      rfl
    · simp only [M_isOne R1.2.1 K, b1_some, if10]
      rw [if_pos c, e2]
      simp only [b1_some, bv_some]
      rw [M_chain (L := h1 107) hm R2.2.1.m lo (fun c a b => (Lkd_eq l1 l2 c a b).symm) c]
  · refine ⟨-1, h, h, ?_, ?_, V, R⟩
    · rw [if_neg c]
    · simp only [M_isOne M K, b1_some, if10]
      rw [if_neg c]
