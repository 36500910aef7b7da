/-! PURE: groups -/
def Gp (L : Int → Int) (x : Int) : Prop := 2 ≤ pc x ∧ (∀ c d, 0 ≤ c → c < 8 → 0 ≤ d → d < 8 → bt x c → bt x d → d ≠ c → bt (L c) d) ∧ ¬ ∃ d, 0 ≤ d ∧ d < 8 ∧ ∀ c, 0 ≤ c → c < 8 → bt x c → bt (L c) d
noncomputable def gpv (L : Int → Int) (x : Int) : Int := @ite Int (Gp L x) (Classical.propDecidable _) 1 0
theorem gpv_1 {L : Int → Int} {x : Int} (h : Gp L x) : gpv L x = 1 := by
  unfold gpv
  rw [if_pos h]
theorem gpv_0 {L : Int → Int} {x : Int} (h : ¬ Gp L x) : gpv L x = 0 := by
  unfold gpv
  rw [if_neg h]
theorem gpv_b (L : Int → Int) (x : Int) : (gpv L x = 1 ∧ Gp L x) ∨ (gpv L x = 0 ∧ ¬ Gp L x) := by
  by_cases h : Gp L x
  · exact Or.inl ⟨gpv_1 h, h⟩
  · exact Or.inr ⟨gpv_0 h, h⟩
theorem Gp_congr {L M : Int → Int} (h : ∀ c, 0 ≤ c → c < 8 → L c = M c) (x : Int) : gpv L x = gpv M x := by
  have e : Gp L x ↔ Gp M x := by
    unfold Gp
    constructor
    · rintro ⟨a, b, c⟩
      exact ⟨a, fun u v u0 u1 v0 v1 p q r => by rw [← h u u0 u1]; exact b u v u0 u1 v0 v1 p q r, fun w => c (by obtain ⟨d, d0, d1, d2⟩ := w; exact ⟨d, d0, d1, fun u u0 u1 p => by rw [h u u0 u1]; exact d2 u u0 u1 p⟩)⟩
    · rintro ⟨a, b, c⟩
      exact ⟨a, fun u v u0 u1 v0 v1 p q r => by rw [h u u0 u1]; exact b u v u0 u1 v0 v1 p q r, fun w => c (by obtain ⟨d, d0, d1, d2⟩ := w; exact ⟨d, d0, d1, fun u u0 u1 p => by rw [← h u u0 u1]; exact d2 u u0 u1 p⟩)⟩
  by_cases c : Gp L x
  · rw [gpv_1 c, gpv_1 (e.1 c)]
  · rw [gpv_0 c, gpv_0 (fun q => c (e.2 q))]
/-- sets that reach beyond the candidates are none -/
theorem Gp_hi {m : Int} {L : Int → Int} (hL : Lok m L) {x d : Int} (hd : 0 ≤ d ∧ d < 8) (hm : m ≤ d) (hb : bt x d) (hx : is8 x) : ¬ Gp L x := by
  rintro ⟨a, b, -⟩
  have h1 : ∃ c, 0 ≤ c ∧ c < 8 ∧ bt x c ∧ c ≠ d := by
    apply Classical.byContradiction
    intro q
    have e : pc x = Sm (fun i => if i = d then 1 else 0) 8 := Sm_congr (fun i i0 i1 => by
      (try dsimp only)
      by_cases w : i = d
      · have hb' : x.toNat.testBit i.toNat = true := by rw [w]; exact hb
        rw [if_pos hb', if_pos w]
      · have hb' : ¬ x.toNat.testBit i.toNat = true := fun z => q ⟨i, i0, i1, z, w⟩
        rw [if_neg hb', if_neg w])
    have e2 : Sm (fun i => if i = d then (1 : Int) else 0) 8 = 1 := by
      have h8 : d = 0 ∨ d = 1 ∨ d = 2 ∨ d = 3 ∨ d = 4 ∨ d = 5 ∨ d = 6 ∨ d = 7 := by omega
      rcases h8 with rfl | rfl | rfl | rfl | rfl | rfl | rfl | rfl <;> decide
    omega
  obtain ⟨c, c0, c1, c2, c3⟩ := h1
  have := (hL c c0 c1).2.2 d hd.1 hd.2 (b c d c0 c1 hd.1 hd.2 c2 hb (fun q => c3 q.symm))
  omega
/-- a loop that may end early -/
theorem loop_br {S X : Type} {f : S → Option (S ⊕ X)} (St : Int → S → Prop) (a n : Int) (Q : X → Prop) {s : S} (han : a ≤ n) (hN : n - a < 1000000) (hs : St a s) (hstep : ∀ c s, a ≤ c → c < n → St c s → (∃ t, f s = some (.inl t) ∧ St (c + 1) t) ∨ ∃ x, f s = some (.inr x) ∧ Q x) (hend : ∀ s, St n s → ∃ x, f s = some (.inr x) ∧ Q x) : ∃ x, loopO f FUEL s = some x ∧ Q x := by
  have key : ∀ (k : Nat) (c : Int) (s : S), a ≤ c → c + k = n → St c s → ∀ N, k < N → ∃ x, loopO f N s = some x ∧ Q x := by
    intro k
    induction k with
    | zero =>
      intro c s h0 h1 h2 N hN
      obtain ⟨M, rfl⟩ : ∃ M, N = M + 1 := ⟨N - 1, by omega⟩
      obtain ⟨x, e, q⟩ := hend s (by rw [show n = c by omega]; exact h2)
      refine ⟨x, ?_, q⟩
      unfold loopO
      rw [e]
    | succ k ih =>
      intro c s h0 h1 h2 N hN
      obtain ⟨M, rfl⟩ : ∃ M, N = M + 1 := ⟨N - 1, by omega⟩
      rcases hstep c s h0 (by omega) h2 with ⟨t, e, q⟩ | ⟨x, e, q⟩
      · obtain ⟨x, e2, q2⟩ := ih (c + 1) t (by omega) (by omega) q M (by omega)
        refine ⟨x, ?_, q2⟩
        unfold loopO
        rw [e]
        exact e2
      · refine ⟨x, ?_, q⟩
        unfold loopO
        rw [e]
  exact key (n - a).toNat a s (by omega) (by omega) hs FUEL (by unfold FUEL; omega)
section Grp
variable {h : HP} {V : Vw} {L : Int → Int} {m x : Int}
theorem X_isGroup {o : Int} (hL : Lok m L) (hx : is8 x) (hr : ∀ c, 0 ≤ c → c < 8 → h (o + 1) c = L c) : m_Links_isGroup o x h = some (gpv L x) := by
  unfold m_Links_isGroup
  rw [P_bits hx]
  simp only [b1_some]
  by_cases p2 : 2 ≤ pc x
  · rw [if_pos p2]
    unfold m_Links_isGroup_L16
    suffices key : ∃ r, loopO (fun s : Int × Int => m_Links_isGroup_L16b o x h s.1 s.2) FUEL (255, 0) = some r ∧ r = gpv L x by
      obtain ⟨r, e, q⟩ := key
      rw [e, q]
    refine loop_br (f := fun s : Int × Int => m_Links_isGroup_L16b o x h s.1 s.2) (fun k (t : Int × Int) => (t.2 = k ∧ is8 t.1 ∧ (∀ d, 0 ≤ d → d < 8 → (bt t.1 d ↔ ∀ c, 0 ≤ c → c < k → bt x c → bt (L c) d)) ∧ ∀ c d, 0 ≤ c → c < k → 0 ≤ d → d < 8 → bt x c → bt x d → d ≠ c → bt (L c) d)) 0 8 (fun r => r = gpv L x) (s := (255, 0)) (by omega) (by omega) ⟨rfl, ⟨by (try dsimp only); omega, by (try dsimp only); omega⟩, fun d d0 d1 => ⟨fun _ c c0 c1 => by omega, fun _ => by
      have h8 : ∀ i : Fin 8, (255 : Nat).testBit i = true := by decide
      exact h8 ⟨d.toNat, by omega⟩⟩, fun c d c0 c1 => by omega⟩ (fun k t k0 k1 hS => ?_) (fun t hS => ?_)
    · obtain ⟨w, k'⟩ := t
      obtain ⟨z1, z2, z3, z4⟩ := hS
      (try dsimp only at z1 z2 z3 z4 ⊢)
      subst z1
      have lk := hL k' k0 k1
      unfold m_Links_isGroup_L16b
      rw [if_neg (by omega), hr k' k0 k1, w32_id (by omega) (by omega)]
      rcases bit_get hx ⟨k0, k1⟩ with ⟨b, eb⟩ | ⟨b, eb⟩
      · rw [if_neg (by omega), if_pos ⟨k0, k1⟩]
        have nn := is8_not hx lk.1
        have ss := is8_sh (c := k') ⟨k0, k1⟩
        by_cases c : iAnd x (iXor (L k') (-1)) = iShl 1 k'
        · rw [if_pos c, if_pos ⟨k0, k1⟩]
          have aa := is8_and z2 lk.1
          have cl : ∀ d, 0 ≤ d → d < 8 → bt x d → d ≠ k' → bt (L k') d := fun d d0 d1 bd nd => by
            apply Classical.byContradiction
            intro q
            have := (nn.2 d d0 d1).2 ⟨bd, q⟩
            rw [c] at this
            exact nd ((ss.2 d d0).1 this)
          refine Or.inl ⟨_, rfl, rfl, aa.1, fun d d0 d1 => ?_, fun u d u0 u1 d0 d1 bu bd nd => ?_⟩
          · rw [aa.2 d, z3 d d0 d1]
            constructor
            · rintro ⟨q1, q2⟩ u u0 u1 bu
              by_cases eu : u = k'
              · rw [eu]; exact q2
              · exact q1 u u0 (by omega) bu
            · intro q
              exact ⟨fun u u0 u1 bu => q u u0 (by omega) bu, q k' k0 (by omega) b⟩
          · by_cases eu : u = k'
            · rw [eu]
              exact cl d d0 d1 bd (by rw [← eu]; exact nd)
            · exact z4 u d u0 (by omega) d0 d1 bu bd nd
        · rw [if_neg c]
          refine Or.inr ⟨0, rfl, (gpv_0 (fun q => c (is8_ext nn.1 ss.1 (fun d d0 d1 => ?_)))).symm⟩
          rw [nn.2 d d0 d1, ss.2 d d0]
          constructor
          · rintro ⟨q1, q2⟩
            apply Classical.byContradiction
            intro nd
            exact q2 (q.2.1 k' d k0 k1 d0 d1 b q1 nd)
          · intro ed
            rw [ed]
            exact ⟨b, lk.2.1⟩
      · rw [if_pos eb]
        refine Or.inl ⟨_, rfl, rfl, z2, fun d d0 d1 => ?_, fun u d u0 u1 d0 d1 bu bd nd => ?_⟩
        · rw [z3 d d0 d1]
          constructor
          · intro q u u0 u1 bu
            by_cases eu : u = k'
            · rw [eu] at bu
              exact absurd bu b
            · exact q u u0 (by omega) bu
          · intro q u u0 u1 bu
            exact q u u0 (by omega) bu
        · by_cases eu : u = k'
          · rw [eu] at bu
            exact absurd bu b
          · exact z4 u d u0 (by omega) d0 d1 bu bd nd
    · obtain ⟨w, k'⟩ := t
      obtain ⟨z1, z2, z3, z4⟩ := hS
      (try dsimp only at z1 z2 z3 z4 ⊢)
      subst z1
      unfold m_Links_isGroup_L16b m_Links_isGroup_J63
      rw [if_pos (by omega)]
      have hz := is8_z z2
      by_cases c : w = 0
      · rw [if_pos c]
        refine ⟨1, rfl, ?_⟩
        refine (gpv_1 ⟨p2, fun c d c0 c1 d0 d1 => z4 c d c0 c1 d0 d1, fun q => ?_⟩).symm
        obtain ⟨d, d0, d1, d2⟩ := q
        exact (hz.1 c) d d0 d1 ((z3 d d0 d1).2 d2)
      · rw [if_neg c]
        refine ⟨0, rfl, ?_⟩
        refine (gpv_0 (fun q => c (hz.2 (fun d d0 d1 b => q.2.2 ⟨d, d0, d1, (z3 d d0 d1).1 b⟩)))).symm
  · rw [if_neg p2, gpv_0 (fun q => p2 q.1)]
theorem M_isGroup (hm : 0 ≤ m ∧ m ≤ 8) (h1 : h 126 1 = m) (hL : Lok m L) (hx : is8 x) (h0 : 0 < x) (hlo : ∀ d, m ≤ d → ¬ bt x d) (hr : ∀ c, 0 ≤ c → c < 8 → h 149 c = L c) : m_Md_isGroup 126 x h = some (gpv L x) := by
  unfold m_Md_isGroup
  have p1 := P_one hx h0
  by_cases p2 : pc x < 2
  · rw [if_pos (p1.2 p2), gpv_0 (fun q => by have := q.1; omega)]
  · rw [if_neg (fun q => p2 (p1.1 q))]
    have sl := sh_low hm
    have com : ∃ w, m_Md_common 126 x h = some w ∧ (is8 w ∧ ∀ d, 0 ≤ d → d < 8 → (bt w d ↔ d < m ∧ ∀ c, 0 ≤ c → c < m → bt x c → bt (L c) d)) := by
      unfold m_Md_common m_Md_common_L11
      rw [h1]
      simp only [bv_some]
      refine loop_ex (fun k (t : Int × Int) => t.2 = k ∧ is8 t.1 ∧ ∀ d, 0 ≤ d → d < 8 → (bt t.1 d ↔ d < m ∧ ∀ c, 0 ≤ c → c < k → bt x c → bt (L c) d)) 0 m _ (by omega) (by omega) ⟨rfl, sl.1, fun d d0 d1 => ?_⟩ (fun k t k0 k1 hS => ?_) (fun t hS => ?_)
      · (try dsimp only)
        rw [sl.2.1 d d0]
        exact ⟨fun q => ⟨q, fun c c0 c1 => by omega⟩, fun q => q.1⟩
      · obtain ⟨w, k'⟩ := t
        obtain ⟨z1, z2, z3⟩ := hS
        (try dsimp only at z1 z2 z3 ⊢)
        subst z1
        have lk := hL k' k0 (by omega)
        unfold m_Md_common_L11b
        simp only [Int.reduceAdd]
        rw [h1, if_neg (by omega), hr k' k0 (by omega), iAnd_m1 z2, w32_id (by omega) (by omega)]
        simp only [bv_some]
        rcases bit_get hx ⟨k0, by omega⟩ with ⟨b, eb⟩ | ⟨b, eb⟩
        · rw [if_pos eb, if_pos (by omega)]
          have aa := is8_and z2 lk.1
          refine ⟨_, rfl, rfl, aa.1, fun d d0 d1 => ?_⟩
          rw [aa.2 d, z3 d d0 d1]
          constructor
          · rintro ⟨⟨q0, q1⟩, q2⟩
            refine ⟨q0, fun u u0 u1 bu => ?_⟩
            by_cases eu : u = k'
            · rw [eu]; exact q2
            · exact q1 u u0 (by omega) bu
          · rintro ⟨q0, q1⟩
            exact ⟨⟨q0, fun u u0 u1 bu => q1 u u0 (by omega) bu⟩, q1 k' k0 (by omega) b⟩
        · rw [if_neg (by omega)]
          refine ⟨_, rfl, rfl, z2, fun d d0 d1 => ?_⟩
          rw [z3 d d0 d1]
          constructor
          · rintro ⟨q0, q1⟩
            refine ⟨q0, fun u u0 u1 bu => ?_⟩
            by_cases eu : u = k'
            · rw [eu] at bu
              exact absurd bu b
            · exact q1 u u0 (by omega) bu
          · rintro ⟨q0, q1⟩
            exact ⟨q0, fun u u0 u1 bu => q1 u u0 (by omega) bu⟩
      · obtain ⟨w, k'⟩ := t
        obtain ⟨z1, z2, z3⟩ := hS
        (try dsimp only at z1 z2 z3 ⊢)
        subst z1
        unfold m_Md_common_L11b
        rw [h1, if_pos (by omega)]
        exact ⟨_, rfl, z2, z3⟩
    obtain ⟨w, e, w8, wb⟩ := com
    have any := pc_any (x := x) (by omega)
    have wz : w = 0 ↔ ¬ ∃ d, 0 ≤ d ∧ d < 8 ∧ ∀ c, 0 ≤ c → c < 8 → bt x c → bt (L c) d := by
      rw [is8_z w8]
      constructor
      · rintro q ⟨d, d0, d1, d2⟩
        obtain ⟨u, u0, u1, bu⟩ := any
        have := (hL u u0 u1).2.2 d d0 d1 (d2 u u0 u1 bu)
        exact q d d0 d1 ((wb d d0 d1).2 ⟨this.1, fun c c0 c1 bc => d2 c c0 (by omega) bc⟩)
      · intro q d d0 d1 bd
        refine q ⟨d, d0, d1, fun c c0 c1 bc => ?_⟩
        have := (wb d d0 d1).1 bd
        by_cases ec : c < m
        · exact this.2 c c0 ec bc
        · exact absurd bc (hlo c (by omega))
    rw [e]
    simp only [b1_some]
    by_cases cw0 : w = 0
    · rw [if_pos cw0]
      unfold m_Md_isGroup_L20
      suffices key : ∃ r, loopO (fun s : Int => m_Md_isGroup_L20b 126 x h s) FUEL 0 = some r ∧ r = gpv L x by
        obtain ⟨r, e, q⟩ := key
        rw [e, q]
      refine loop_br (f := fun s : Int => m_Md_isGroup_L20b 126 x h s) (fun k (t : Int) => t = k ∧ ∀ c d, 0 ≤ c → c < k → 0 ≤ d → d < 8 → bt x c → bt x d → d ≠ c → bt (L c) d) 0 m (fun r => r = gpv L x) (s := 0) (by omega) (by omega) ⟨rfl, fun c d c0 c1 => by omega⟩ (fun k t k0 k1 hS => ?_) (fun t hS => ?_)
      · obtain ⟨z1, z4⟩ := hS
        subst z1
        have lk := hL t k0 (by omega)
        have nn := is8_not hx lk.1
        have ss := is8_sh (c := t) ⟨k0, by omega⟩
        have n2 := is8_not nn.1 ss.1
        unfold m_Md_isGroup_L20b
        simp only [Int.reduceAdd]
        have e5 := hr t k0 (by omega)
        rw [h1, if_neg (by omega), w32_id (by omega) (by omega)]
        rcases bit_get hx ⟨k0, by omega⟩ with ⟨b, eb⟩ | ⟨b, eb⟩
        · rw [if_pos eb, if_pos (by omega)]
          have z := is8_z n2.1
          by_cases c : iAnd (iAnd x (iXor (L t) (-1))) (iXor (iShl 1 t) (-1)) = 0
          · rw [if_pos (by rw [e5]; exact c)]
            refine Or.inl ⟨_, rfl, rfl, fun u d u0 u1 d0 d1 bu bd nd => ?_⟩
            by_cases eu : u = t
            · rw [eu] at nd ⊢
              apply Classical.byContradiction
              intro q
              exact (z.1 c) d d0 d1 ((n2.2 d d0 d1).2 ⟨(nn.2 d d0 d1).2 ⟨bd, q⟩, fun w => nd ((ss.2 d d0).1 w)⟩)
            · exact z4 u d u0 (by omega) d0 d1 bu bd nd
          · rw [if_neg (by rw [e5]; exact c)]
            refine Or.inr ⟨0, rfl, (gpv_0 (fun q => c (z.2 (fun d d0 d1 bd => ?_)))).symm⟩
            have w1 := (n2.2 d d0 d1).1 bd
            have w2 := (nn.2 d d0 d1).1 w1.1
            exact w2.2 (q.2.1 t d k0 (by omega) d0 d1 b w2.1 (fun w => w1.2 ((ss.2 d d0).2 w)))
        · rw [if_neg (by omega)]
          refine Or.inl ⟨_, rfl, rfl, fun u d u0 u1 d0 d1 bu bd nd => ?_⟩
          by_cases eu : u = t
          · rw [eu] at bu
            exact absurd bu b
          · exact z4 u d u0 (by omega) d0 d1 bu bd nd
      · obtain ⟨z1, z4⟩ := hS
        subst z1
        unfold m_Md_isGroup_L20b
        rw [h1, if_pos (by omega)]
        refine ⟨1, rfl, (gpv_1 ⟨by omega, fun c d c0 c1 d0 d1 bc bd nd => ?_, wz.1 cw0⟩).symm⟩
        by_cases ec : c < t
        · exact z4 c d c0 ec d0 d1 bc bd nd
        · exact absurd bc (hlo c (by omega))
    · rw [if_neg cw0, gpv_0 (fun q => cw0 (wz.2 q.2.2))]
end Grp
/-! all sets, in order -/
theorem Sm_tail0 {f : Int → Int} {a b : Int} (ha : 0 ≤ a) (hab : a ≤ b) (h : ∀ i, a ≤ i → i < b → f i = 0) : Sm f b = Sm f a := by
  obtain ⟨k, rfl⟩ : ∃ k : Nat, b = a + k := ⟨(b - a).toNat, by omega⟩
  induction k with
  | zero => rw [show a + ((0 : Nat) : Int) = a by omega]
  | succ k ih =>
    rw [show a + ((k + 1 : Nat) : Int) = a + k + 1 by omega, Sm_s f (by omega), ih (by omega) (fun i h0 h1 => h i h0 (by omega)), h (a + k) (by omega) (by omega), Int.add_zero]
noncomputable def cnt (L : Int → Int) (n : Int) : Int := Sm (fun i => gpv L (i + 1)) n
theorem cnt_s {L : Int → Int} {n : Int} (hn : 0 ≤ n) : cnt L (n + 1) = cnt L n + gpv L (n + 1) := Sm_s _ hn
theorem cnt_bd (L : Int → Int) {n : Int} (hn : 0 ≤ n) : 0 ≤ cnt L n ∧ cnt L n ≤ n := by
  have := Sm_bd (f := fun i => gpv L (i + 1)) 0 1 hn (fun i _ _ => by
    (try dsimp only)
    rcases gpv_b L (i + 1) with q | q <;> omega)
  unfold cnt
  omega
noncomputable def gaN (L : Int → Int) (k : Int) : Nat → Int
  | 0 => -1
  | n + 1 => if 0 ≤ gaN L k n then gaN L k n else if gpv L ((n : Int) + 1) = 1 ∧ cnt L n = k then (n : Int) + 1 else -1
theorem gaN_st {L : Int → Int} {k : Int} {n : Nat} (h : 0 ≤ gaN L k n) (d : Nat) : gaN L k (n + d) = gaN L k n := by
  induction d with
  | zero => rfl
  | succ d ih =>
    show (if 0 ≤ gaN L k (n + d) then gaN L k (n + d) else _) = _
    rw [ih, if_pos h]
theorem gaN_0 {L : Int → Int} {k : Int} {n : Nat} (d : Nat) (h : ∀ i : Nat, n ≤ i → i < n + d → gpv L ((i : Int) + 1) = 0) : gaN L k (n + d) = gaN L k n := by
  induction d with
  | zero => rfl
  | succ d ih =>
    show (if 0 ≤ gaN L k (n + d) then gaN L k (n + d) else if gpv L (((n + d : Nat) : Int) + 1) = 1 ∧ cnt L ((n + d : Nat) : Int) = k then ((n + d : Nat) : Int) + 1 else -1) = _
    have h0 := h (n + d) (by omega) (by omega)
    rw [ih (fun i a b => h i a (by omega)), if_neg (show ¬ (gpv L (((n + d : Nat) : Int) + 1) = 1 ∧ cnt L ((n + d : Nat) : Int) = k) from fun q => by omega)]
    have hr : ∀ n : Nat, 0 ≤ gaN L k n ∨ gaN L k n = -1 := fun n => by
      induction n with
      | zero => exact Or.inr rfl
      | succ n ih =>
        unfold gaN
        (repeat' split) <;> first | (left; omega) | (right; rfl)
    rcases hr n with q | q
    · rw [if_pos q]
    · rw [if_neg (by omega), q]
noncomputable def mxN (L : Int → Int) : Nat → Int
  | 0 => 0
  | n + 1 => if gpv L ((n : Int) + 1) = 0 then mxN L n else if mxN L n < pc ((n : Int) + 1) then pc ((n : Int) + 1) else mxN L n
theorem mxN_0 {L : Int → Int} {n : Nat} (d : Nat) (h : ∀ i : Nat, n ≤ i → i < n + d → gpv L ((i : Int) + 1) = 0) : mxN L (n + d) = mxN L n := by
  induction d with
  | zero => rfl
  | succ d ih =>
    show (if gpv L (((n + d : Nat) : Int) + 1) = 0 then mxN L (n + d) else _) = _
    rw [if_pos (h (n + d) (by omega) (by omega))]
    exact ih (fun i a b => h i a (by omega))
section All
variable {h : HP} {L : Int → Int} {m : Int}
theorem hi_0 (hm : 0 ≤ m ∧ m ≤ 8) (hL : Lok m L) {x : Int} (h1 : iShl 1 m ≤ x) (h2 : x < 256) : gpv L x = 0 := by
  have sl := sh_low hm
  have hx : is8 x := ⟨by omega, h2⟩
  have q : ¬ ∀ d, m ≤ d → ¬ bt x d := fun q => by
    have := (sl.2.2.1 x hx).2 q
    omega
  have q2 : ∃ d, m ≤ d ∧ bt x d := by
    apply Classical.byContradiction
    intro w
    exact q (fun d hd b => w ⟨d, hd, b⟩)
  obtain ⟨d, hd, b⟩ := q2
  have d8 : d < 8 := by
    rcases Int.lt_or_le d 8 with w | w
    · exact w
    · exact absurd b (is8_hi hx w)
  exact gpv_0 (Gp_hi hL ⟨by omega, d8⟩ hd b hx)
theorem X_groups {o : Int} (hL : Lok m L) (hr : ∀ c, 0 ≤ c → c < 8 → h (o + 1) c = L c) : m_Links_groups o h = some (cnt L 255) := by
  unfold m_Links_groups m_Links_groups_L4
  refine loop_seq (fun x => (cnt L (x - 1), x)) 1 256 (by omega) (by omega) rfl (fun x x0 x1 => ?_) ?_
  · have hb := cnt_bd L (n := x - 1) (by omega)
    have es := cnt_s (L := L) (n := x - 1) (by omega)
    rw [show x - 1 + 1 = x by omega] at es
    (try dsimp only)
    unfold m_Links_groups_L4b
    rw [if_neg (by omega), X_isGroup hL ⟨by omega, x1⟩ hr, w32_id (x := x + 1) (by omega) (by omega), w32_id (by omega) (by omega), show x + 1 - 1 = x by omega, es]
    simp only [b1_some]
    rcases gpv_b L x with ⟨e, -⟩ | ⟨e, -⟩
    · rw [e, if_neg (by omega)]
    · rw [e, if_pos rfl, Int.add_zero]
  · (try dsimp only)
    unfold m_Links_groups_L4b
    rw [if_pos (by omega)]
    rfl
theorem X_greatest {o : Int} (hL : Lok m L) (hr : ∀ c, 0 ≤ c → c < 8 → h (o + 1) c = L c) : m_Links_greatest o h = some (mxN L 255) := by
  unfold m_Links_greatest m_Links_greatest_L4
  refine loop_seq (fun x => (mxN L (x - 1).toNat, x)) 1 256 (by omega) (by omega) rfl (fun x x0 x1 => ?_) ?_
  · have es : mxN L (x + 1 - 1).toNat = if gpv L x = 0 then mxN L (x - 1).toNat else if mxN L (x - 1).toNat < pc x then pc x else mxN L (x - 1).toNat := by
      rw [show (x + 1 - 1).toNat = (x - 1).toNat + 1 by omega]
      show (if gpv L (((x - 1).toNat : Int) + 1) = 0 then mxN L (x - 1).toNat else if mxN L (x - 1).toNat < pc (((x - 1).toNat : Int) + 1) then pc (((x - 1).toNat : Int) + 1) else mxN L (x - 1).toNat) = _
      rw [show ((x - 1).toNat : Int) + 1 = x by omega]
    (try dsimp only)
    unfold m_Links_greatest_L4b
    rw [if_neg (by omega), X_isGroup hL ⟨by omega, x1⟩ hr, P_bits ⟨by omega, x1⟩, w32_id (x := x + 1) (by omega) (by omega), es]
    simp only [b1_some, bv_some]
    rcases gpv_b L x with ⟨e, -⟩ | ⟨e, -⟩
    · rw [e]
      simp (disch := omega) only [if_neg]
    · rw [e, if_pos rfl, if_pos rfl]
  · (try dsimp only)
    unfold m_Links_greatest_L4b
    rw [if_pos (by omega)]
    rfl
theorem gaN_e {k x : Int} (hx : 1 ≤ x) : gaN L k x.toNat = if 0 ≤ gaN L k (x - 1).toNat then gaN L k (x - 1).toNat else if gpv L x = 1 ∧ cnt L (x - 1) = k then x else -1 := by
  rw [show x.toNat = (x - 1).toNat + 1 by omega]
  show (if 0 ≤ gaN L k (x - 1).toNat then gaN L k (x - 1).toNat else if gpv L (((x - 1).toNat : Int) + 1) = 1 ∧ cnt L ((x - 1).toNat : Int) = k then ((x - 1).toNat : Int) + 1 else -1) = _
  rw [show ((x - 1).toNat : Int) + 1 = x by omega, show ((x - 1).toNat : Int) = x - 1 by omega]
theorem X_groupAt {o k : Int} (hL : Lok m L) (hr : ∀ c, 0 ≤ c → c < 8 → h (o + 1) c = L c) : m_Links_groupAt o k h = some (gaN L k 255) := by
  unfold m_Links_groupAt m_Links_groupAt_L4
  suffices key : ∃ r, loopO (fun s : Int × Int => m_Links_groupAt_L4b o k h s.1 s.2) FUEL (0, 1) = some r ∧ r = gaN L k 255 by
    obtain ⟨r, e, q⟩ := key
    rw [e, q]
  refine loop_br (f := fun s : Int × Int => m_Links_groupAt_L4b o k h s.1 s.2) (fun x (t : Int × Int) => t = (cnt L (x - 1), x) ∧ gaN L k (x - 1).toNat = -1) 1 256 (fun r => r = gaN L k 255) (s := (0, 1)) (by omega) (by omega) ⟨rfl, rfl⟩ (fun x t x0 x1 hS => ?_) (fun t hS => ?_)
  · obtain ⟨rfl, z2⟩ := hS
    have hb := cnt_bd L (n := x - 1) (by omega)
    have es := cnt_s (L := L) (n := x - 1) (by omega)
    rw [show x - 1 + 1 = x by omega] at es
    have eg := gaN_e (L := L) (k := k) x0
    rw [if_neg (by omega)] at eg
    (try dsimp only)
    unfold m_Links_groupAt_L4b
    rw [if_neg (by omega), X_isGroup hL ⟨by omega, x1⟩ hr, w32_id (x := x + 1) (by omega) (by omega), w32_id (by omega) (by omega)]
    simp only [b1_some]
    rw [show x + 1 - 1 = x by omega]
    rcases gpv_b L x with ⟨e, -⟩ | ⟨e, -⟩
    · rw [e] at es eg ⊢
      rw [if_neg (by omega)]
      by_cases c : cnt L (x - 1) = k
      · rw [if_pos c]
        rw [if_pos ⟨rfl, c⟩] at eg
        refine Or.inr ⟨_, rfl, ?_⟩
        have := gaN_st (L := L) (k := k) (n := x.toNat) (by omega) (255 - x.toNat)
        rw [show x.toNat + (255 - x.toNat) = 255 by omega] at this
        rw [this, eg]
      · rw [if_neg c]
        rw [if_neg (fun q => c q.2)] at eg
        exact Or.inl ⟨_, rfl, by rw [es], eg⟩
    · rw [e] at es eg ⊢
      rw [if_pos rfl]
      rw [if_neg (fun q => by omega)] at eg
      exact Or.inl ⟨_, rfl, by rw [es, Int.add_zero], eg⟩
  · obtain ⟨rfl, z2⟩ := hS
    (try dsimp only)
    unfold m_Links_groupAt_L4b
    rw [if_pos (by omega)]
    exact ⟨_, rfl, z2.symm⟩
theorem M_grouped (hm : 0 ≤ m ∧ m ≤ 8) (h1 : h 126 1 = m) (hL : Lok m L) (hr : ∀ c, 0 ≤ c → c < 8 → h 149 c = L c) (k : Int) : m_Md_grouped_L8 126 k h (0, 1) = some (if k < 0 then cnt L 255 else if gaN L k 255 < 0 then -5 else gaN L k 255, h) := by
  have sl := sh_low hm
  have ec : cnt L 255 = cnt L (iShl 1 m - 1) := Sm_tail0 (by omega) (by omega) (fun i i0 i1 => hi_0 hm hL (by omega) (by omega))
  have eg : gaN L k 255 = gaN L k (iShl 1 m - 1).toNat := by
    have := gaN_0 (L := L) (k := k) (n := (iShl 1 m - 1).toNat) (255 - (iShl 1 m - 1).toNat) (fun i a b => hi_0 hm hL (by omega) (by omega))
    rw [show (iShl 1 m - 1).toNat + (255 - (iShl 1 m - 1).toNat) = 255 by omega] at this
    exact this
  unfold m_Md_grouped_L8
  suffices key : ∃ r, loopO (fun s : Int × Int => m_Md_grouped_L8b 126 k h s.1 s.2) FUEL (0, 1) = some r ∧ r = (if k < 0 then cnt L 255 else if gaN L k 255 < 0 then -5 else gaN L k 255, h) by
    obtain ⟨r, e, q⟩ := key
    rw [e, q]
  refine loop_br (f := fun s : Int × Int => m_Md_grouped_L8b 126 k h s.1 s.2) (fun x (t : Int × Int) => t = (cnt L (x - 1), x) ∧ (0 ≤ k → gaN L k (x - 1).toNat = -1)) 1 (iShl 1 m) (fun r => r = (if k < 0 then cnt L 255 else if gaN L k 255 < 0 then -5 else gaN L k 255, h)) (s := (0, 1)) (by omega) (by omega) ⟨rfl, fun _ => rfl⟩ (fun x t x0 x1 hS => ?_) (fun t hS => ?_)
  · obtain ⟨rfl, z2⟩ := hS
    have hx8 : is8 x := ⟨by omega, by omega⟩
    have hb := cnt_bd L (n := x - 1) (by omega)
    have es := cnt_s (L := L) (n := x - 1) (by omega)
    rw [show x - 1 + 1 = x by omega] at es
    have egx := gaN_e (L := L) (k := k) x0
    (try dsimp only)
    unfold m_Md_grouped_L8b
    rw [h1, if_neg (by omega), M_isGroup hm h1 hL hx8 (by omega) ((sl.2.2.1 x hx8).1 x1) hr, w32_id (x := x + 1) (by omega) (by omega), w32_id (by omega) (by omega)]
    simp only [b1_some]
    rw [show x + 1 - 1 = x by omega]
    rcases gpv_b L x with ⟨e, -⟩ | ⟨e, -⟩
    · rw [e] at es egx ⊢
      rw [if_neg (by omega)]
      by_cases c : cnt L (x - 1) = k
      · rw [if_pos c]
        have k0 : 0 ≤ k := by omega
        rw [z2 k0, if_neg (by omega), if_pos ⟨rfl, c⟩] at egx
        refine Or.inr ⟨_, rfl, ?_⟩
        have := gaN_st (L := L) (k := k) (n := x.toNat) (by omega) (255 - x.toNat)
        rw [show x.toNat + (255 - x.toNat) = 255 by omega] at this
        rw [this, egx, if_neg (by omega), if_neg (by omega)]
      · rw [if_neg c]
        refine Or.inl ⟨_, rfl, by rw [es], fun k0 => ?_⟩
        rw [egx, z2 k0, if_neg (by omega), if_neg (fun q => c q.2)]
    · rw [e] at es egx ⊢
      rw [if_pos rfl]
      refine Or.inl ⟨_, rfl, by rw [es, Int.add_zero], fun k0 => ?_⟩
      rw [egx, z2 k0, if_neg (by omega), if_neg (fun q => by omega)]
  · obtain ⟨rfl, z2⟩ := hS
    (try dsimp only)
    unfold m_Md_grouped_L8b m_Md_grouped_J42
    rw [h1, if_pos (by omega)]
    by_cases k0 : 0 ≤ k
    · rw [if_pos k0]
      refine ⟨_, rfl, ?_⟩
      rw [eg, z2 k0, if_neg (by omega), if_pos (by omega)]
    · rw [if_neg k0]
      refine ⟨_, rfl, ?_⟩
      rw [ec, if_pos (by omega)]
theorem M_greatest (hm : 0 ≤ m ∧ m ≤ 8) (h1 : h 126 1 = m) (hL : Lok m L) (hr : ∀ c, 0 ≤ c → c < 8 → h 149 c = L c) : m_Md_greatest_L8 126 h (0, 1) = some (mxN L 255, h) := by
  have sl := sh_low hm
  have eg : mxN L 255 = mxN L (iShl 1 m - 1).toNat := by
    have := mxN_0 (L := L) (n := (iShl 1 m - 1).toNat) (255 - (iShl 1 m - 1).toNat) (fun i a b => hi_0 hm hL (by omega) (by omega))
    rw [show (iShl 1 m - 1).toNat + (255 - (iShl 1 m - 1).toNat) = 255 by omega] at this
    exact this
  rw [eg]
  unfold m_Md_greatest_L8
  refine loop_seq (fun x => (mxN L (x - 1).toNat, x)) 1 (iShl 1 m) (by omega) (by omega) rfl (fun x x0 x1 => ?_) ?_
  · have hx8 : is8 x := ⟨by omega, by omega⟩
    have es : mxN L (x + 1 - 1).toNat = if gpv L x = 0 then mxN L (x - 1).toNat else if mxN L (x - 1).toNat < pc x then pc x else mxN L (x - 1).toNat := by
      rw [show (x + 1 - 1).toNat = (x - 1).toNat + 1 by omega]
      show (if gpv L (((x - 1).toNat : Int) + 1) = 0 then mxN L (x - 1).toNat else if mxN L (x - 1).toNat < pc (((x - 1).toNat : Int) + 1) then pc (((x - 1).toNat : Int) + 1) else mxN L (x - 1).toNat) = _
      rw [show ((x - 1).toNat : Int) + 1 = x by omega]
    (try dsimp only)
    unfold m_Md_greatest_L8b
    rw [h1, if_neg (by omega), M_isGroup hm h1 hL hx8 (by omega) ((sl.2.2.1 x hx8).1 x1) hr, P_bits hx8, w32_id (x := x + 1) (by omega) (by omega), es]
    simp only [b1_some, bv_some]
    rcases gpv_b L x with ⟨e, -⟩ | ⟨e, -⟩
    · rw [e]
      simp (disch := omega) only [if_neg]
    · rw [e, if_pos rfl, if_pos rfl]
  · (try dsimp only)
    unfold m_Md_greatest_L8b
    rw [h1, if_pos (by omega)]
end All
theorem A_group (k : Int) : AA (m_Cb_group 0 k) (m_Md_group 126 k) := by
  rintro h ⟨V, R⟩
  obtain ⟨X, M, K, I, T, P⟩ := id R
  have hm := K.m
  have hSc := Sc_bd K (V 7 0 0)
  unfold m_Cb_group m_Md_group m_Md_grouped
  simp only [Int.zero_add]
  by_cases c : 0 ≤ k
  · obtain ⟨h1, e1, r1, l1, f1⟩ := X_linkNow X K
    have R1 : Rl h1 V := Rl_fr f1 R
    obtain ⟨h2, e2, r2, l2, f2⟩ := M_binds R1.2.1 K
    have R2 : Rl h2 V := Rl_fr f2 R1
    have lo := Lkd_ok K hSc.2 l1
    refine ⟨if gaN (h1 107) k 255 < 0 then -5 else gaN (h1 107) k 255, h1, h2, ?_, ?_, V, R2⟩
    · rw [if_pos c, e1]
      simp only [b1_some]
      rw [X_groupAt (o := 106) lo (fun c _ _ => rfl)]
      simp only [b1_some]
      unfold m_Cb_orNeither
      (repeat' split) <;> first | (exfalso; omega) | rfl
    · rw [if_pos c, e2]
      simp only [b1_some]
      rw [M_grouped (L := h1 107) hm R2.2.1.m lo (fun c a b => (Lkd_eq l1 l2 c a b).symm) k, if_neg (by omega)]
      rfl
  · refine ⟨-2, h, h, ?_, ?_, V, R⟩
    · rw [if_neg c]
    · rw [if_neg c]
theorem A_pairs (w r : Int) : AA (m_Cb_pairs 0 w r) (m_Md_pairs 126 w r) := by
  rintro h ⟨V, R⟩
  obtain ⟨X, M, K, I, T, P⟩ := id R
  have hm := K.m
  have hSc := Sc_bd K (V 7 0 0)
  have hRk := Rk_inv K (V 7 0 0)
  unfold m_Cb_pairs m_Md_pairs m_Md_pairs_J34
  simp only [Int.zero_add, P_in, b1_some, if10]
  by_cases c : 0 ≤ w ∧ w ≤ 4
  · by_cases c0 : w = 0
    · obtain ⟨h2, e2, r2, f2⟩ := M_orders M K
      have e29 : h2 126 29 = (Rk V (V 7 0 0)).1 := r2.1.1
      refine ⟨(Rk V (V 7 0 0)).1, h, h2, ?_, ?_, V, Rl_fr (frR_frC f2) R⟩
      · rw [if_pos c0, X_pairsIn X K (V 7 0 0)]
        rfl
      · rw [if_pos c, if_neg (by omega), if_pos c0, e2]
        simp only [b1_some]
        rw [e29]
    · by_cases c1 : w = 1
      · obtain ⟨h1, e1, r1, f1⟩ := X_rankNow X K
        have R1 : Rl h1 V := Rl_fr f1 R
        obtain ⟨h2, e2, r2, f2⟩ := M_orders R1.2.1 K
        have e29 : h2 126 29 = (Rk V (V 7 0 0)).1 := r2.1.1
        have e991 : h1 99 1 = Sc V (V 7 0 0) := r1.2
        have su : m_Md_suspects 126 h1 = some (Sc V (V 7 0 0), h2) := by
          unfold m_Md_suspects m_Md_suspects_L8
          rw [e2]
          simp only [b1_some]
          refine loop_seq (fun k => (if k < Sc V (V 7 0 0) then k else Sc V (V 7 0 0), k)) 0 (Rk V (V 7 0 0)).1 (by omega) (by omega) ?_ (fun k k0 k1 => ?_) ?_
          · by_cases q : 0 < Sc V (V 7 0 0)
            · rw [if_pos q]
            · rw [if_neg q, show Sc V (V 7 0 0) = 0 by omega]
          · have g3 := r2.2 k k0 k1
            (try dsimp only)
            unfold m_Md_suspects_L8b
            simp only [Int.reduceAdd, bv_some]
            rw [e29, if_neg (by omega), if_pos (by omega), w32_id (x := k + 1) (by omega) (by omega)]
            by_cases q : k < Sc V (V 7 0 0)
            · rw [if_pos q] at g3 ⊢
              rw [if_neg (by rw [g3]; omega), w32_id (by omega) (by omega)]
              by_cases q2 : k + 1 < Sc V (V 7 0 0)
              · rw [if_pos q2]
              · rw [if_neg q2, show Sc V (V 7 0 0) = k + 1 by omega]
            · rw [if_neg q] at g3 ⊢
              rw [if_pos (by rw [g3]), w32_id (by omega) (by omega), if_neg (by omega), Int.add_zero]
          · (try dsimp only)
            unfold m_Md_suspects_L8b
            rw [e29, if_pos (by omega), if_neg (by omega)]
        refine ⟨Sc V (V 7 0 0), h1, h2, ?_, ?_, V, Rl_fr (frR_frC f2) R1⟩
        · rw [if_neg c0, if_pos c1, e1]
          simp only [b1_some]
          rw [e991]
        · rw [if_pos c, if_neg (by omega), if_neg c0, if_pos c1, su]
          rfl
      · by_cases c2 : w = 2
        · by_cases c3 : 0 ≤ r ∧ r ≤ 9
          · refine ⟨D2 V (fun x y => if nearP V x y r then 1 else 0), h, h, ?_, ?_, V, R⟩
            · rw [if_neg c0, if_neg c1, if_pos c2, if_neg (by omega), if_pos (by omega), X_nearOnes X K]
              rfl
            · rw [if_pos c, if_pos c2, if_pos c3, if_neg c0, if_neg c1, if_pos c2, M_near M K]
              rfl
          · refine ⟨-2, h, h, ?_, ?_, V, R⟩
            · rw [if_neg c0, if_neg c1, if_pos c2]
              by_cases c4 : r < 0
              · rw [if_pos c4]
              · rw [if_neg c4, if_neg (by omega)]
            · rw [if_pos c, if_pos c2, if_neg c3]
        · obtain ⟨h1, e1, r1, l1, f1⟩ := X_linkNow X K
          have R1 : Rl h1 V := Rl_fr f1 R
          obtain ⟨h2, e2, r2, l2, f2⟩ := M_binds R1.2.1 K
          have R2 : Rl h2 V := Rl_fr f2 R1
          have lo := Lkd_ok K hSc.2 l1
          have hr2 : ∀ c, 0 ≤ c → c < 8 → h2 149 c = h1 107 c := fun c a b => (Lkd_eq l1 l2 c a b).symm
          by_cases c3 : w = 3
          · refine ⟨cnt (h1 107) 255, h1, h2, ?_, ?_, V, R2⟩
            · rw [if_neg c0, if_neg c1, if_neg c2, if_pos c3, e1]
              simp only [b1_some]
              rw [X_groups (o := 106) lo (fun c _ _ => rfl)]
              rfl
            · unfold m_Md_grouped
              rw [if_pos c, if_neg c2, if_neg c0, if_neg c1, if_neg c2, if_pos c3, e2]
              simp only [b1_some]
              rw [M_grouped (L := h1 107) hm R2.2.1.m lo hr2 (-1), if_pos (by omega)]
              rfl
          · refine ⟨mxN (h1 107) 255, h1, h2, ?_, ?_, V, R2⟩
            · rw [if_neg c0, if_neg c1, if_neg c2, if_neg c3, if_pos (by omega), e1]
              simp only [b1_some]
              rw [X_greatest (o := 106) lo (fun c _ _ => rfl)]
              rfl
            · unfold m_Md_greatest
              rw [if_pos c, if_neg c2, if_neg c0, if_neg c1, if_neg c2, if_neg c3, e2]
              simp only [b1_some]
              rw [M_greatest (L := h1 107) hm R2.2.1.m lo hr2]
              rfl
  · refine ⟨-1, h, h, ?_, ?_, V, R⟩
    · rw [if_neg (by omega), if_neg (by omega), if_neg (by omega), if_neg (by omega), if_neg (by omega)]
    · rw [if_neg c]
