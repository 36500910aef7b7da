/-! PURE: both sides of the law, over views of what an exam holds. First: loops, sums. -/
theorem loopO_inv {S X : Type} {f : S → Option (S ⊕ X)} (I : S → Prop) (μ : S → Nat) (Q : X → Prop) (hs : ∀ s, I s → (∃ t, f s = some (.inl t) ∧ I t ∧ μ t < μ s) ∨ (∃ x, f s = some (.inr x) ∧ Q x)) : ∀ (n : Nat) (s : S), I s → μ s < n → ∃ x, loopO f n s = some x ∧ Q x := by
  intro n
  induction n with
  | zero => intro s _ h; omega
  | succ n ih =>
    intro s hI hm
    rcases hs s hI with ⟨t, e, hI', hm'⟩ | ⟨x, e, hq⟩
    · obtain ⟨x, e2, hq⟩ := ih t hI' (by omega)
      refine ⟨x, ?_, hq⟩
      unfold loopO
      rw [e]
      exact e2
    · refine ⟨x, ?_, hq⟩
      unfold loopO
      rw [e]
/-- the same, when the loop's answer is known -/
theorem loopO_val {S X : Type} {f : S → Option (S ⊕ X)} (I : S → Prop) (μ : S → Nat) (x : X) (hs : ∀ s, I s → (∃ t, f s = some (.inl t) ∧ I t ∧ μ t < μ s) ∨ f s = some (.inr x)) (n : Nat) (s : S) (h0 : I s) (hm : μ s < n) : loopO f n s = some x := by
  obtain ⟨y, e, rfl⟩ := loopO_inv I μ (fun y => y = x) (fun s hI => (hs s hI).imp id (fun e => ⟨x, e, rfl⟩)) n s h0 hm
  exact e
/-- two loops side by side -/
theorem loopO_sim {S T X Y : Type} {f : S → Option (S ⊕ X)} {g : T → Option (T ⊕ Y)} (I : S → T → Prop) (μ : S → Nat) (Q : X → Y → Prop) (hs : ∀ s t, I s t → (∃ s' t', f s = some (.inl s') ∧ g t = some (.inl t') ∧ I s' t' ∧ μ s' < μ s) ∨ (∃ x y, f s = some (.inr x) ∧ g t = some (.inr y) ∧ Q x y)) : ∀ (n : Nat) (s : S) (t : T), I s t → μ s < n → ∃ x y, loopO f n s = some x ∧ loopO g n t = some y ∧ Q x y := by
  intro n
  induction n with
  | zero => intro s t _ h; omega
  | succ n ih =>
    intro s t hI hm
    rcases hs s t hI with ⟨s', t', e, e', hI', hm'⟩ | ⟨x, y, e, e', hq⟩
    · obtain ⟨x, y, e2, e3, hq⟩ := ih s' t' hI' (by omega)
      refine ⟨x, y, ?_, ?_, hq⟩
      · unfold loopO
        rw [e]
        exact e2
      · unfold loopO
        rw [e']
        exact e3
    · refine ⟨x, y, ?_, ?_, hq⟩
      · unfold loopO
        rw [e]
      · unfold loopO
        rw [e']
theorem b1_some {A X : Type} (a : A) (k : A → Option X) : b1 (some a) k = k a := rfl
theorem b2_some {A B X : Type} (a : A) (b : B) (k : A → B → Option X) : b2 (some (a, b)) k = k a b := rfl
theorem bv_some {A X : Type} (a : A) (k : A → Option X) : bv a k = k a := rfl
/-- f 0 + .. + f (n - 1) -/
def sumN (f : Int → Int) : Nat → Int
  | 0 => 0
  | n + 1 => sumN f n + f n
def Sm (f : Int → Int) (n : Int) : Int := sumN f n.toNat
theorem Sm_0 (f : Int → Int) : Sm f 0 = 0 := rfl
theorem Sm_s (f : Int → Int) {n : Int} (hn : 0 ≤ n) : Sm f (n + 1) = Sm f n + f n := by
  unfold Sm
  rw [show (n + 1).toNat = n.toNat + 1 by omega]
  unfold sumN
  rw [show ((n.toNat : Nat) : Int) = n by omega]
  cases h : n.toNat <;> rfl
theorem Sm_congr {f g : Int → Int} {n : Int} (h : ∀ i, 0 ≤ i → i < n → f i = g i) : Sm f n = Sm g n := by
  unfold Sm
  have : ∀ k : Nat, (k : Int) ≤ n → sumN f k = sumN g k := by
    intro k
    induction k with
    | zero => intro _; rfl
    | succ k ih => intro hk; unfold sumN; rw [ih (by omega), h k (by omega) (by omega)]
  rcases Int.le_total 0 n with h0 | h0
  · exact this _ (by omega)
  · rw [show n.toNat = 0 by omega]; rfl
theorem Sm_bd {f : Int → Int} {n : Int} (a b : Int) (hn : 0 ≤ n) (h : ∀ i, 0 ≤ i → i < n → a ≤ f i ∧ f i ≤ b) : a * n ≤ Sm f n ∧ Sm f n ≤ b * n := by
  obtain ⟨k, rfl⟩ : ∃ k : Nat, n = k := ⟨n.toNat, by omega⟩
  induction k with
  | zero => simp [Sm_0]
  | succ k ih =>
    have h1 := ih (by omega) (fun i h0 h1 => h i h0 (by omega))
    have h2 := h k (by omega) (by omega)
    rw [show ((k + 1 : Nat) : Int) = (k : Int) + 1 by omega, Sm_s f (by omega)]
    rw [Int.mul_add, Int.mul_add]
    omega
/-! what an exam holds: V 0: items, come, seen, planned; 1 key; 2 kind; 3 parts; 4 given; 5 row; 6 place; 7 used; 8 9 10 seen; 11 12 13 plan -/
abbrev Vw : Type := Int → Int → Int → Int
def okVw (V : Vw) : Prop :=
  (1 ≤ V 0 0 0 ∧ V 0 0 0 ≤ 8) ∧ (0 ≤ V 0 1 0 ∧ V 0 1 0 ≤ 8) ∧ (0 ≤ V 0 2 0 ∧ V 0 2 0 ≤ 5) ∧ (0 ≤ V 0 3 0 ∧ V 0 3 0 ≤ 8) ∧
  (∀ i, 0 ≤ i → i < 8 → 0 ≤ V 1 i 0 ∧ V 1 i 0 ≤ 3) ∧ (∀ i, 0 ≤ i → i < 8 → 0 ≤ V 2 i 0 ∧ V 2 i 0 ≤ 3) ∧
  (∀ i a, 0 ≤ i → i < 8 → 0 ≤ a → a < 4 → 1 ≤ V 3 i a ∧ V 3 i a ≤ 3) ∧
  (∀ c i, 0 ≤ c → c < 8 → 0 ≤ i → i < 8 → -1 ≤ V 4 c i ∧ V 4 c i ≤ 3) ∧
  (∀ c, 0 ≤ c → c < 8 → -1 ≤ V 5 c 0 ∧ V 5 c 0 ≤ 9 ∧ -1 ≤ V 6 c 0 ∧ V 6 c 0 ≤ 9 ∧ ∀ d, 0 ≤ d → d < 8 → c ≠ d → 0 ≤ V 5 c 0 → ¬ (V 5 c 0 = V 5 d 0 ∧ V 6 c 0 = V 6 d 0)) ∧
  (0 ≤ V 7 0 0 ∧ V 7 0 0 ≤ 3) ∧ (0 ≤ V 7 1 0 ∧ V 7 1 0 ≤ 3) ∧ (1 ≤ V 7 2 0 ∧ V 7 2 0 ≤ 500) ∧ (0 ≤ V 7 3 0 ∧ V 7 3 0 ≤ 9) ∧ (0 ≤ V 7 4 0 ∧ V 7 4 0 ≤ 2) ∧ (1 ≤ V 7 5 0 ∧ V 7 5 0 ≤ 4) ∧
  (∀ c i, V 0 1 0 ≤ c → V 4 c i = -1 ∧ V 5 c 0 = -1 ∧ V 6 c 0 = -1) ∧
  (∀ k, 0 ≤ k → k < V 0 3 0 → (V 11 k 0 = 0 ∧ 0 ≤ V 12 k 0 ∧ V 12 k 0 < V 0 1 0) ∨ ((V 11 k 0 = 1 ∨ V 11 k 0 = 2) ∧ 0 ≤ V 12 k 0 ∧ V 12 k 0 < V 0 0 0 ∧ 0 ≤ V 13 k 0 ∧ V 13 k 0 ≤ 3) ∨ (V 11 k 0 = 3 ∧ 0 ≤ V 12 k 0 ∧ V 12 k 0 < V 0 1 0 ∧ 0 ≤ V 13 k 0 ∧ V 13 k 0 < V 0 1 0 ∧ V 12 k 0 ≠ V 13 k 0)) ∧
  (∀ k, 0 ≤ k → k < 5 → b01 (V 10 k 0))
/-- the class's exam at o -/
def isX (o : Int) (h : HP) (V : Vw) : Prop :=
  h o 0 = V 0 0 0 ∧ h o 1 = V 0 1 0 ∧ h o 2 = V 0 2 0 ∧ h o 3 = V 0 3 0 ∧
  (∀ i, 0 ≤ i → i < 8 → h (o + 1) i = V 1 i 0) ∧ (∀ i, 0 ≤ i → i < 8 → h (o + 2) i = V 2 i 0) ∧
  (∀ i a, 0 ≤ i → i < 8 → 0 ≤ a → a < 4 → h (o + i + 4) a = V 3 i a) ∧
  (∀ c i, 0 ≤ c → c < 8 → 0 ≤ i → i < 8 → h (o + c + 13) i = V 4 c i) ∧
  (∀ c, 0 ≤ c → c < 8 → h (o + 21) c = V 5 c 0) ∧ (∀ c, 0 ≤ c → c < 8 → h (o + 22) c = V 6 c 0) ∧
  (∀ k, 0 ≤ k → k < 6 → h (o + 23) k = V 7 k 0) ∧
  (∀ k, 0 ≤ k → k < 5 → h (o + 24) k = V 8 k 0 ∧ h (o + 25) k = V 9 k 0 ∧ h (o + 26) k = V 10 k 0) ∧
  (∀ k, 0 ≤ k → k < 8 → h (o + 27) k = V 11 k 0 ∧ h (o + 28) k = V 12 k 0 ∧ h (o + 29) k = V 13 k 0)
/-- the model at 126 -/
def isM (h : HP) (V : Vw) : Prop :=
  h 126 0 = V 0 0 0 ∧ h 126 1 = V 0 1 0 ∧ h 126 15 = V 0 2 0 ∧ h 126 16 = V 0 3 0 ∧
  (∀ i, 0 ≤ i → i < 8 → h 127 i = V 1 i 0) ∧ (∀ i, 0 ≤ i → i < 8 → h 128 i = V 2 i 0) ∧
  (∀ i a, 0 ≤ i → i < 8 → 0 ≤ a → a < 4 → h 129 (4 * i + a) = V 3 i a) ∧
  (∀ c i, 0 ≤ c → c < V 0 1 0 → 0 ≤ i → i < 8 → h 130 (8 * c + i) = V 4 c i) ∧
  (∀ c, 0 ≤ c → c < V 0 1 0 → h 131 c = V 5 c 0) ∧ (∀ c, 0 ≤ c → c < V 0 1 0 → h 132 c = V 6 c 0) ∧
  (∀ k, 0 ≤ k → k < 6 → h 133 k = V 7 k 0) ∧
  (∀ k, 0 ≤ k → k < 5 → h 134 k = V 8 k 0 ∧ h 135 k = V 9 k 0 ∧ h 136 k = V 10 k 0) ∧
  (∀ k, 0 ≤ k → k < 8 → h 137 k = V 11 k 0 ∧ h 138 k = V 12 k 0 ∧ h 139 k = V 13 k 0)
section PjX
variable {o : Int} {h : HP} {V : Vw}
theorem isX.n (X : isX o h V) : h o 0 = V 0 0 0 := X.1
theorem isX.m (X : isX o h V) : h o 1 = V 0 1 0 := X.2.1
theorem isX.s (X : isX o h V) : h o 2 = V 0 2 0 := X.2.2.1
theorem isX.p (X : isX o h V) : h o 3 = V 0 3 0 := X.2.2.2.1
theorem isX.ky (X : isX o h V) {i : Int} (a : 0 ≤ i) (b : i < 8) : h (o + 1) i = V 1 i 0 := X.2.2.2.2.1 i a b
theorem isX.kd (X : isX o h V) {i : Int} (a : 0 ≤ i) (b : i < 8) : h (o + 2) i = V 2 i 0 := X.2.2.2.2.2.1 i a b
theorem isX.pt (X : isX o h V) {i a : Int} (h1 : 0 ≤ i) (h2 : i < 8) (h3 : 0 ≤ a) (h4 : a < 4) : h (o + i + 4) a = V 3 i a := X.2.2.2.2.2.2.1 i a h1 h2 h3 h4
theorem isX.gv (X : isX o h V) {c i : Int} (h1 : 0 ≤ c) (h2 : c < 8) (h3 : 0 ≤ i) (h4 : i < 8) : h (o + c + 13) i = V 4 c i := X.2.2.2.2.2.2.2.1 c i h1 h2 h3 h4
theorem isX.rw (X : isX o h V) {c : Int} (h1 : 0 ≤ c) (h2 : c < 8) : h (o + 21) c = V 5 c 0 := X.2.2.2.2.2.2.2.2.1 c h1 h2
theorem isX.pl (X : isX o h V) {c : Int} (h1 : 0 ≤ c) (h2 : c < 8) : h (o + 22) c = V 6 c 0 := X.2.2.2.2.2.2.2.2.2.1 c h1 h2
theorem isX.us (X : isX o h V) {c : Int} (h1 : 0 ≤ c) (h2 : c < 6) : h (o + 23) c = V 7 c 0 := X.2.2.2.2.2.2.2.2.2.2.1 c h1 h2
theorem isX.sx (X : isX o h V) {c : Int} (h1 : 0 ≤ c) (h2 : c < 5) : h (o + 24) c = V 8 c 0 := (X.2.2.2.2.2.2.2.2.2.2.2.1 c h1 h2).1
theorem isX.sy (X : isX o h V) {c : Int} (h1 : 0 ≤ c) (h2 : c < 5) : h (o + 25) c = V 9 c 0 := (X.2.2.2.2.2.2.2.2.2.2.2.1 c h1 h2).2.1
theorem isX.si (X : isX o h V) {c : Int} (h1 : 0 ≤ c) (h2 : c < 5) : h (o + 26) c = V 10 c 0 := (X.2.2.2.2.2.2.2.2.2.2.2.1 c h1 h2).2.2
theorem isX.pw (X : isX o h V) {c : Int} (h1 : 0 ≤ c) (h2 : c < 8) : h (o + 27) c = V 11 c 0 := (X.2.2.2.2.2.2.2.2.2.2.2.2 c h1 h2).1
theorem isX.pk (X : isX o h V) {c : Int} (h1 : 0 ≤ c) (h2 : c < 8) : h (o + 28) c = V 12 c 0 := (X.2.2.2.2.2.2.2.2.2.2.2.2 c h1 h2).2.1
theorem isX.pv (X : isX o h V) {c : Int} (h1 : 0 ≤ c) (h2 : c < 8) : h (o + 29) c = V 13 c 0 := (X.2.2.2.2.2.2.2.2.2.2.2.2 c h1 h2).2.2
theorem isM.n (X : isM h V) : h 126 0 = V 0 0 0 := X.1
theorem isM.m (X : isM h V) : h 126 1 = V 0 1 0 := X.2.1
theorem isM.s (X : isM h V) : h 126 15 = V 0 2 0 := X.2.2.1
theorem isM.p (X : isM h V) : h 126 16 = V 0 3 0 := X.2.2.2.1
theorem isM.ky (X : isM h V) {i : Int} (a : 0 ≤ i) (b : i < 8) : h 127 i = V 1 i 0 := X.2.2.2.2.1 i a b
theorem isM.kd (X : isM h V) {i : Int} (a : 0 ≤ i) (b : i < 8) : h 128 i = V 2 i 0 := X.2.2.2.2.2.1 i a b
theorem isM.pt (X : isM h V) {i a : Int} (h1 : 0 ≤ i) (h2 : i < 8) (h3 : 0 ≤ a) (h4 : a < 4) : h 129 (4 * i + a) = V 3 i a := X.2.2.2.2.2.2.1 i a h1 h2 h3 h4
theorem isM.gv (X : isM h V) {c i : Int} (h1 : 0 ≤ c) (h2 : c < V 0 1 0) (h3 : 0 ≤ i) (h4 : i < 8) : h 130 (8 * c + i) = V 4 c i := X.2.2.2.2.2.2.2.1 c i h1 h2 h3 h4
theorem isM.rw (X : isM h V) {c : Int} (h1 : 0 ≤ c) (h2 : c < V 0 1 0) : h 131 c = V 5 c 0 := X.2.2.2.2.2.2.2.2.1 c h1 h2
theorem isM.pl (X : isM h V) {c : Int} (h1 : 0 ≤ c) (h2 : c < V 0 1 0) : h 132 c = V 6 c 0 := X.2.2.2.2.2.2.2.2.2.1 c h1 h2
theorem isM.us (X : isM h V) {c : Int} (h1 : 0 ≤ c) (h2 : c < 6) : h 133 c = V 7 c 0 := X.2.2.2.2.2.2.2.2.2.2.1 c h1 h2
theorem isM.sx (X : isM h V) {c : Int} (h1 : 0 ≤ c) (h2 : c < 5) : h 134 c = V 8 c 0 := (X.2.2.2.2.2.2.2.2.2.2.2.1 c h1 h2).1
theorem isM.sy (X : isM h V) {c : Int} (h1 : 0 ≤ c) (h2 : c < 5) : h 135 c = V 9 c 0 := (X.2.2.2.2.2.2.2.2.2.2.2.1 c h1 h2).2.1
theorem isM.si (X : isM h V) {c : Int} (h1 : 0 ≤ c) (h2 : c < 5) : h 136 c = V 10 c 0 := (X.2.2.2.2.2.2.2.2.2.2.2.1 c h1 h2).2.2
theorem isM.pw (X : isM h V) {c : Int} (h1 : 0 ≤ c) (h2 : c < 8) : h 137 c = V 11 c 0 := (X.2.2.2.2.2.2.2.2.2.2.2.2 c h1 h2).1
theorem isM.pk (X : isM h V) {c : Int} (h1 : 0 ≤ c) (h2 : c < 8) : h 138 c = V 12 c 0 := (X.2.2.2.2.2.2.2.2.2.2.2.2 c h1 h2).2.1
theorem isM.pv (X : isM h V) {c : Int} (h1 : 0 ≤ c) (h2 : c < 8) : h 139 c = V 13 c 0 := (X.2.2.2.2.2.2.2.2.2.2.2.2 c h1 h2).2.2
theorem okVw.n (K : okVw V) : 1 ≤ V 0 0 0 ∧ V 0 0 0 ≤ 8 := K.1
theorem okVw.m (K : okVw V) : 0 ≤ V 0 1 0 ∧ V 0 1 0 ≤ 8 := K.2.1
theorem okVw.s (K : okVw V) : 0 ≤ V 0 2 0 ∧ V 0 2 0 ≤ 5 := K.2.2.1
theorem okVw.p (K : okVw V) : 0 ≤ V 0 3 0 ∧ V 0 3 0 ≤ 8 := K.2.2.2.1
theorem okVw.ky (K : okVw V) (i : Int) (a : 0 ≤ i) (b : i < 8) : 0 ≤ V 1 i 0 ∧ V 1 i 0 ≤ 3 := K.2.2.2.2.1 i a b
theorem okVw.kd (K : okVw V) (i : Int) (a : 0 ≤ i) (b : i < 8) : 0 ≤ V 2 i 0 ∧ V 2 i 0 ≤ 3 := K.2.2.2.2.2.1 i a b
theorem okVw.pt (K : okVw V) (i a : Int) (h1 : 0 ≤ i) (h2 : i < 8) (h3 : 0 ≤ a) (h4 : a < 4) : 1 ≤ V 3 i a ∧ V 3 i a ≤ 3 := K.2.2.2.2.2.2.1 i a h1 h2 h3 h4
theorem okVw.gv (K : okVw V) (c i : Int) (h1 : 0 ≤ c) (h2 : c < 8) (h3 : 0 ≤ i) (h4 : i < 8) : -1 ≤ V 4 c i ∧ V 4 c i ≤ 3 := K.2.2.2.2.2.2.2.1 c i h1 h2 h3 h4
theorem okVw.rp (K : okVw V) (c : Int) (h1 : 0 ≤ c) (h2 : c < 8) : -1 ≤ V 5 c 0 ∧ V 5 c 0 ≤ 9 ∧ -1 ≤ V 6 c 0 ∧ V 6 c 0 ≤ 9 := ⟨(K.2.2.2.2.2.2.2.2.1 c h1 h2).1, (K.2.2.2.2.2.2.2.2.1 c h1 h2).2.1, (K.2.2.2.2.2.2.2.2.1 c h1 h2).2.2.1, (K.2.2.2.2.2.2.2.2.1 c h1 h2).2.2.2.1⟩
theorem okVw.ds (K : okVw V) (c d : Int) (h1 : 0 ≤ c) (h2 : c < 8) (h3 : 0 ≤ d) (h4 : d < 8) (h5 : c ≠ d) (h6 : 0 ≤ V 5 c 0) : ¬ (V 5 c 0 = V 5 d 0 ∧ V 6 c 0 = V 6 d 0) := (K.2.2.2.2.2.2.2.2.1 c h1 h2).2.2.2.2 d h3 h4 h5 h6
theorem okVw.us (K : okVw V) : (0 ≤ V 7 0 0 ∧ V 7 0 0 ≤ 3) ∧ (0 ≤ V 7 1 0 ∧ V 7 1 0 ≤ 3) ∧ (1 ≤ V 7 2 0 ∧ V 7 2 0 ≤ 500) ∧ (0 ≤ V 7 3 0 ∧ V 7 3 0 ≤ 9) ∧ (0 ≤ V 7 4 0 ∧ V 7 4 0 ≤ 2) ∧ (1 ≤ V 7 5 0 ∧ V 7 5 0 ≤ 4) := ⟨K.2.2.2.2.2.2.2.2.2.1, K.2.2.2.2.2.2.2.2.2.2.1, K.2.2.2.2.2.2.2.2.2.2.2.1, K.2.2.2.2.2.2.2.2.2.2.2.2.1, K.2.2.2.2.2.2.2.2.2.2.2.2.2.1, K.2.2.2.2.2.2.2.2.2.2.2.2.2.2.1⟩
theorem okVw.no (K : okVw V) (c i : Int) (h : V 0 1 0 ≤ c) : V 4 c i = -1 ∧ V 5 c 0 = -1 ∧ V 6 c 0 = -1 := K.2.2.2.2.2.2.2.2.2.2.2.2.2.2.2.1 c i h
end PjX
