/-! PURE: the text -/
theorem A_feed (x : Int) : AA (m_Cb_feed 0 x) (m_Md_feed 126 x) := by
  rintro h ⟨V, R⟩
  obtain ⟨X, M, K, I, T, P⟩ := id R
  obtain ⟨t0, t1, t2, t3⟩ := id T
  unfold m_Cb_feed m_Md_feed m_Text_isFull m_Text_append
  simp only [Int.zero_add, Int.reduceAdd, P_in, b1_some, if10]
  by_cases c : 0 ≤ x ∧ x ≤ 127
  · by_cases d : h 126 18 < 60
    · obtain ⟨g, eg⟩ : ∃ g, g = upd2 (upd2 h 92 (h 91 0) x) 91 0 (w32 (upd2 h 92 (h 91 0) x 91 0 + 1)) := ⟨_, rfl⟩
      have eg' : g = upd2 (upd2 h 92 (h 126 18) x) 91 0 (h 126 18 + 1) := by
        rw [eg, upd2_np _ (by omega), t0, w32_id (by omega) (by omega)]
      have g1 : ∀ p j, p ≠ 91 → p ≠ 92 → g p j = h p j := fun p j n1 n2 => by
        rw [eg', upd2_np _ n1, upd2_np _ n2]
      have g18 : g 126 18 = h 126 18 := g1 _ _ (by omega) (by omega)
      obtain ⟨k, ek⟩ : ∃ k, k = upd2 (upd2 g 140 (g 126 18) x) 126 18 (w32 (upd2 g 140 (g 126 18) x 126 18 + 1)) := ⟨_, rfl⟩
      have ek' : k = upd2 (upd2 g 140 (h 126 18) x) 126 18 (h 126 18 + 1) := by
        rw [ek, upd2_np _ (by omega), g18, w32_id (by omega) (by omega)]
      have k1 : ∀ p j, p ≠ 91 → p ≠ 92 → p ≠ 140 → ¬ (p = 126 ∧ j = 18) → k p j = h p j := fun p j n1 n2 n3 n4 => by
        rw [ek']
        unfold upd2
        (try dsimp only)
        rw [if_neg n4, if_neg (fun q => n3 q.1)]
        exact g1 p j n1 n2
      refine ⟨h 126 18 + 1, g, k, ?_, ?_, V, ?_, ?_, K, ?_, ?_, ?_⟩
      · rw [if_neg (by omega), if_pos (by omega), t0, if_pos d]
        simp only [b1_some, bv_some, if_true]
        rw [if_pos (by omega)]
        simp only [b2_some]
        have e2 : upd2 (upd2 h 92 (h 126 18) x) 91 0 (w32 (upd2 h 92 (h 126 18) x 91 0 + 1)) = g := by
          rw [eg, t0]
        rw [e2, eg', upd2_eq]
      · rw [if_pos c, if_neg (by rw [g18]; omega), if_pos (by rw [g18]; omega)]
        simp only [bv_some]
        rw [← ek, ek', upd2_eq]
      · exact isX_cg (fun p j a b => k1 p j (by omega) (by omega) (by omega) (by omega)) X
      · exact isM_sm ⟨fun j hj => k1 _ _ (by omega) (by omega) (by omega) (by omega), fun p j a b => k1 _ _ (by omega) (by omega) (by omega) (by omega)⟩ M
      · exact imOK_cg (k1 _ _ (by omega) (by omega) (by omega) (by omega)) (k1 _ _ (by omega) (by omega) (by omega) (by omega)) (fun p j a b => k1 _ _ (by omega) (by omega) (by omega) (by omega)) (fun j => k1 _ _ (by omega) (by omega) (by omega) (by omega)) I
      · have k91 : k 91 0 = h 126 18 + 1 := by
          rw [ek', upd2_np _ (by omega), upd2_np _ (by omega), eg', upd2_eq]
        have k18 : k 126 18 = h 126 18 + 1 := by
          rw [ek', upd2_eq]
        unfold txOK
        rw [k91, k18]
        refine ⟨rfl, by omega, by omega, fun i i0 i1 => ?_⟩
        have k92 : k 92 i = upd2 h 92 (h 126 18) x 92 i := by
          rw [ek', upd2_np _ (by omega), upd2_np _ (by omega), eg', upd2_np _ (by omega)]
        have k140 : k 140 i = upd2 g 140 (h 126 18) x 140 i := by
          rw [ek', upd2_np _ (by omega)]
        rw [k92, k140]
        by_cases e : i = h 126 18
        · rw [e, upd2_eq, upd2_eq]
          exact ⟨rfl, c.1, c.2⟩
        · rw [upd2_nj _ e, upd2_nj _ e, g1 140 i (by omega) (by omega)]
          exact t3 i i0 (by omega)
      · exact tpOK_cg (fun p j a b => k1 _ _ (by omega) (by omega) (by omega) (by omega)) (fun p j a b => k1 _ _ (by omega) (by omega) (by omega) (by omega)) P
    · refine ⟨-4, h, h, ?_, ?_, V, R⟩
      · rw [if_neg (by omega), if_pos (by omega), t0, if_neg d]
        rfl
      · rw [if_pos c, if_pos (by omega)]
  · refine ⟨-2, h, h, ?_, ?_, V, R⟩
    · by_cases d : x < 0
      · rw [if_pos d]
      · rw [if_neg d, if_neg (by omega)]
    · rw [if_neg c]
abbrev ltr (c : Int) : Prop := c = 45 ∨ (97 ≤ c ∧ c ≤ 100)
/-- how many clauses, or the fault, from a place on -/
def exT (V : Vw) (t : Int → Int) (L : Int) : Nat → Int → Int → Int → Int
  | 0, w, told, _ => if told ≤ 0 then -10 - L else w
  | k + 1, w, told, i => if told = -1 ∧ 0 ≤ t i - 48 ∧ t i - 48 < V 0 1 0 then exT V t L k (w + 1) 0 (i + 1) else if 0 ≤ told ∧ told < V 0 0 0 ∧ ltr (t i) then exT V t L k w (told + 1) (i + 1) else if 0 < told ∧ t i = 59 ∧ w < 4 then exT V t L k w (-1) (i + 1) else -10 - i
/-- what is told, from a place on -/
def tlT (t : Int → Int) : Nat → Vw → Int → Int → Int → Vw
  | 0, W, _, _, _ => W
  | k + 1, W, c, told, i => if t i = 59 then tlT t k W (-1) told (i + 1) else if c = -1 then tlT t k W (t i - 48) 0 (i + 1) else tlT t k (upV W 4 c told (if t i = 45 then -1 else t i - 97)) c (told + 1) (i + 1)
theorem X_letter (c : Int) (h : HP) : m_Text_isLetter c h = some (if ltr c then 1 else 0) := by
  unfold m_Text_isLetter
  (repeat' split) <;> first | (exfalso; omega) | rfl
section Tx
variable {h : HP} {V : Vw} {t : Int → Int} {L : Int}
theorem X_examine (X : isX 1 h V) (K : okVw V) (hL : 0 ≤ L ∧ L ≤ 60) (h0 : h 91 0 = L) (ht : ∀ i, 0 ≤ i → i < L → h 92 i = t i ∧ 0 ≤ t i ∧ t i ≤ 127) : m_Text_examine 91 1 h = some (exT V t L L.toNat 0 (-1) 0) := by
  have hm := K.m
  have hn := K.n
  have key : ∀ (k N : Nat) (w told i : Int), i + k = L → 0 ≤ i → 0 ≤ w → w ≤ i → -1 ≤ told → told ≤ i → k < N → loopO (fun s : Int × Int × Int => m_Text_examine_L7b 91 1 h s.1 s.2.1 s.2.2) N (w, told, i) = some (exT V t L k w told i) := by
    intro k
    induction k with
    | zero =>
      intro N w told i e i0 w0 w1 l0 l1 hN
      obtain ⟨M, rfl⟩ : ∃ M, N = M + 1 := ⟨N - 1, by omega⟩
      unfold loopO
      (try dsimp only)
      unfold m_Text_examine_L7b m_Text_examine_J109
      rw [h0, if_pos (by omega), w32_id (by omega) (by omega)]
      unfold exT
      by_cases c : told ≤ 0
      · rw [if_pos c, if_pos c]
        rfl
      · rw [if_neg c, if_neg c]
        rfl
    | succ k ih =>
      intro N w told i e i0 w0 w1 l0 l1 hN
      obtain ⟨M, rfl⟩ : ∃ M, N = M + 1 := ⟨N - 1, by omega⟩
      have hi := ht i i0 (by omega)
      have j76 : ∀ q : Prop, (¬ (told = -1 ∧ 0 ≤ t i - 48 ∧ t i - 48 < V 0 1 0)) → (¬ (0 ≤ told ∧ told < V 0 0 0 ∧ ltr (t i))) → m_Text_examine_J76 91 1 w told i (t i) h = if 0 < told ∧ t i = 59 ∧ w < 4 then some (.inl (w, -1, i + 1)) else some (.inr (-10 - i)) := fun _ _ _ => by
        unfold m_Text_examine_J76
        rw [w32_id (x := -10 - i) (by omega) (by omega), w32_id (by omega) (by omega)]
        (repeat' split) <;> first | (exfalso; omega) | rfl
      have st : m_Text_examine_L7b 91 1 h w told i = if told = -1 ∧ 0 ≤ t i - 48 ∧ t i - 48 < V 0 1 0 then some (.inl (w + 1, 0, i + 1)) else if 0 ≤ told ∧ told < V 0 0 0 ∧ ltr (t i) then some (.inl (w, told + 1, i + 1)) else if 0 < told ∧ t i = 59 ∧ w < 4 then some (.inl (w, -1, i + 1)) else some (.inr (-10 - i)) := by
        have j50 : ¬ (told = -1 ∧ 0 ≤ t i - 48 ∧ t i - 48 < V 0 1 0) → m_Text_examine_J50 91 1 w told i (t i) h = if 0 ≤ told ∧ told < V 0 0 0 ∧ ltr (t i) then some (.inl (w, told + 1, i + 1)) else if 0 < told ∧ t i = 59 ∧ w < 4 then some (.inl (w, -1, i + 1)) else some (.inr (-10 - i)) := fun q => by
          unfold m_Text_examine_J50
          rw [X.n, X_letter, w32_id (x := told + 1) (by omega) (by omega), w32_id (x := i + 1) (by omega) (by omega)]
          simp only [b1_some, if10]
          by_cases c2 : 0 ≤ told ∧ told < V 0 0 0 ∧ ltr (t i)
          · rw [if_neg (by omega), if_neg (by omega), if_pos c2.2.2, if_pos c2]
          · rw [if_neg c2, j76 True q c2]
            by_cases d1 : told < 0
            · rw [if_pos d1]
            · rw [if_neg d1]
              by_cases d2 : V 0 0 0 ≤ told
              · rw [if_pos d2]
              · rw [if_neg d2, if_neg (fun q => c2 ⟨by omega, by omega, q⟩)]
        unfold m_Text_examine_L7b
        simp only [Int.reduceAdd]
        rw [h0, if_neg (by omega), if_pos (by omega), hi.1]
        simp only [bv_some]
        rw [X_hasCandidate X, w32_id (x := t i - 48) (by omega) (by omega), w32_id (x := w + 1) (by omega) (by omega), w32_id (x := i + 1) (by omega) (by omega)]
        simp only [b1_some, if10]
        by_cases c1 : told = -1 ∧ 0 ≤ t i - 48 ∧ t i - 48 < V 0 1 0
        · rw [if_pos c1.1, if_pos c1.2, if_pos c1]
        · rw [if_neg c1, j50 c1]
          by_cases d1 : told = -1
          · rw [if_pos d1, if_neg (fun q => c1 ⟨d1, q⟩)]
          · rw [if_neg d1]
      unfold loopO
      (try dsimp only)
      rw [st]
      unfold exT
      by_cases c1 : told = -1 ∧ 0 ≤ t i - 48 ∧ t i - 48 < V 0 1 0
      · rw [if_pos c1, if_pos c1]
        exact ih M (w + 1) 0 (i + 1) (by omega) (by omega) (by omega) (by omega) (by omega) (by omega) (by omega)
      · rw [if_neg c1, if_neg c1]
        by_cases c2 : 0 ≤ told ∧ told < V 0 0 0 ∧ ltr (t i)
        · rw [if_pos c2, if_pos c2]
          exact ih M w (told + 1) (i + 1) (by omega) (by omega) (by omega) (by omega) (by omega) (by omega) (by omega)
        · rw [if_neg c2, if_neg c2]
          by_cases c3 : 0 < told ∧ t i = 59 ∧ w < 4
          · rw [if_pos c3, if_pos c3]
            exact ih M w (-1) (i + 1) (by omega) (by omega) (by omega) (by omega) (by omega) (by omega) (by omega)
          · rw [if_neg c3, if_neg c3]
  unfold m_Text_examine m_Text_examine_L7
  exact key L.toNat FUEL 0 (-1) 0 (by omega) (by omega) (by omega) (by omega) (by omega) (by omega) (by unfold FUEL; omega)
/-- all but the answers as it was -/
def sm4 (V W : Vw) : Prop := ∀ f a b, f ≠ 4 → W f a b = V f a b
theorem sm4.up {V W : Vw} (s : sm4 V W) (a b v : Int) : sm4 V (upV W 4 a b v) := fun f a' b' n => by
  unfold upV
  rw [if_neg (fun q => n q.1)]
  exact s f a' b' n
theorem X_tell (X : isX 1 h V) (K : okVw V) (hL : 0 ≤ L ∧ L ≤ 60) (h0 : h 91 0 = L) (ht : ∀ i, 0 ≤ i → i < L → h 92 i = t i ∧ 0 ≤ t i ∧ t i ≤ 127) (hR : 0 < exT V t L L.toNat 0 (-1) 0) : ∃ h1, m_Text_tell 91 1 h = some h1 ∧ isX 1 h1 (tlT t L.toNat V (-1) 0 0) ∧ okVw (tlT t L.toNat V (-1) 0 0) ∧ sm4 V (tlT t L.toNat V (-1) 0 0) ∧ ∀ p j, ¬ (1 ≤ p ∧ p ≤ 30) → h1 p j = h p j := by
  have hm := K.m
  have hn := K.n
  have key : ∀ (k N : Nat) (W : Vw) (g : HP) (w told i c item : Int), i + k = L → 0 ≤ i → 0 < exT V t L k w told i → ((c = -1 ∧ told = -1) ∨ (0 ≤ c ∧ c < V 0 1 0 ∧ told = item ∧ 0 ≤ item)) → isX 1 g W → okVw W → sm4 V W → (∀ p j, ¬ (1 ≤ p ∧ p ≤ 30) → g p j = h p j) → k < N → ∃ h1, loopO (fun s : Int × Int × Int × HP => m_Text_tell_L7b 91 1 s.1 s.2.1 s.2.2.1 s.2.2.2) N (c, item, i, g) = some h1 ∧ isX 1 h1 (tlT t k W c item i) ∧ okVw (tlT t k W c item i) ∧ sm4 V (tlT t k W c item i) ∧ ∀ p j, ¬ (1 ≤ p ∧ p ≤ 30) → h1 p j = h p j := by
    intro k
    induction k with
    | zero =>
      intro N W g w told i c item e i0 hx hc Xg Kg sg fg hN
      obtain ⟨M, rfl⟩ : ∃ M, N = M + 1 := ⟨N - 1, by omega⟩
      refine ⟨g, ?_, Xg, Kg, sg, fg⟩
      unfold loopO
      (try dsimp only)
      unfold m_Text_tell_L7b
      rw [fg 91 0 (by omega), h0, if_pos (by omega)]
    | succ k ih =>
      intro N W g w told i c item e i0 hx hc Xg Kg sg fg hN
      obtain ⟨M, rfl⟩ : ∃ M, N = M + 1 := ⟨N - 1, by omega⟩
      have hi := ht i i0 (by omega)
      have e92 : g 92 i = t i := by
        rw [fg 92 i (by omega)]
        exact hi.1
      have en : W 0 0 0 = V 0 0 0 := sg 0 0 0 (by omega)
      have em : W 0 1 0 = V 0 1 0 := sg 0 1 0 (by omega)
      unfold exT at hx
      unfold loopO
      (try dsimp only)
      unfold tlT
      by_cases c1 : told = -1 ∧ 0 ≤ t i - 48 ∧ t i - 48 < V 0 1 0
      · rw [if_pos c1] at hx
        have hc1 : c = -1 := by omega
        have st : m_Text_tell_L7b 91 1 c item i g = some (.inl (t i - 48, 0, i + 1, g)) := by
          unfold m_Text_tell_L7b
          simp only [Int.reduceAdd]
          rw [fg 91 0 (by omega), h0, if_neg (by omega), if_pos (by omega), e92]
          simp only [bv_some]
          rw [if_neg (by omega), if_pos hc1, w32_id (by omega) (by omega), w32_id (by omega) (by omega)]
        rw [st, if_neg (by omega), if_pos hc1]
        exact ih M W g (w + 1) 0 (i + 1) (t i - 48) 0 (by omega) (by omega) hx (Or.inr ⟨by omega, by omega, rfl, by omega⟩) Xg Kg sg fg (by omega)
      · rw [if_neg c1] at hx
        by_cases c2 : 0 ≤ told ∧ told < V 0 0 0 ∧ ltr (t i)
        · rw [if_pos c2] at hx
          have hc2 : 0 ≤ c ∧ c < V 0 1 0 ∧ told = item ∧ 0 ≤ item := by omega
          have c22 : t i = 45 ∨ (97 ≤ t i ∧ t i ≤ 100) := c2.2.2
          have v3 : -1 ≤ (if t i = 45 then -1 else t i - 97) ∧ (if t i = 45 then -1 else t i - 97) ≤ 3 := by
            split <;> omega
          have st : m_Text_tell_L7b 91 1 c item i g = some (.inl (c, item + 1, i + 1, upd2 g (1 + c + 13) item (if t i = 45 then -1 else t i - 97))) := by
            unfold m_Text_tell_L7b m_Text_tell_J92
            simp only [Int.reduceAdd]
            rw [fg 91 0 (by omega), h0, if_neg (by omega), if_pos (by omega), e92]
            simp only [bv_some]
            rw [if_neg (by omega), if_neg (by omega), X_hasCandidate Xg, X_hasItem Xg]
            simp only [b1_some, if10]
            rw [if_pos (by omega), if_pos (by omega), if_pos (show 0 ≤ c ∧ c < 8 by omega), w32_id (x := item + 1) (by omega) (by omega), w32_id (x := i + 1) (by omega) (by omega)]
            by_cases q : t i = 45
            · rw [if_pos q, if_pos (show 0 ≤ item ∧ item < 8 by omega), if_pos q]
            · rw [if_neg q, if_pos (show 0 ≤ item ∧ item < 8 by omega), if_neg q, w32_id (by omega) (by omega)]
          rw [st, if_neg (show ¬ t i = 59 by omega), if_neg (show ¬ c = -1 by omega)]
          exact ih M (upV W 4 c item (if t i = 45 then -1 else t i - 97)) (upd2 g (1 + c + 13) item (if t i = 45 then -1 else t i - 97)) w (told + 1) (i + 1) c (item + 1) (by omega) (by omega) hx (Or.inr ⟨by omega, by omega, by omega, by omega⟩) (isX_put _ (by unfold atX; omega) Xg) (okVw_put (by unfold rgV; omega) Kg) (sg.up _ _ _) (fun p j n => by rw [upd2_np _ (by omega)]; exact fg p j n) (by omega)
        · rw [if_neg c2] at hx
          by_cases c3 : 0 < told ∧ t i = 59 ∧ w < 4
          · rw [if_pos c3] at hx
            have st : m_Text_tell_L7b 91 1 c item i g = some (.inl (-1, item, i + 1, g)) := by
              unfold m_Text_tell_L7b
              simp only [Int.reduceAdd]
              rw [fg 91 0 (by omega), h0, if_neg (by omega), if_pos (by omega), e92]
              simp only [bv_some]
              rw [if_pos c3.2.1, w32_id (by omega) (by omega)]
            rw [st, if_pos c3.2.1]
            exact ih M W g w (-1) (i + 1) (-1) item (by omega) (by omega) hx (Or.inl ⟨rfl, rfl⟩) Xg Kg sg fg (by omega)
          · rw [if_neg c3] at hx
            omega
  unfold m_Text_tell m_Text_tell_L7
  exact key L.toNat FUEL V h 0 (-1) 0 (-1) 0 (by omega) (by omega) hR (Or.inl ⟨rfl, rfl⟩) X K (fun f a b _ => rfl) (fun p j _ => rfl) (by unfold FUEL; omega)
end Tx
