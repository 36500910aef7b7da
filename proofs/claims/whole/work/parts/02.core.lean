/-! THE PURE HEAP: a cell's place, an index, a number. A world: the kinds of its places. -/
abbrev HP : Type := Int → Int → Int
abbrev TP : Type := List (Nat × Nat)
def w32 (x : Int) : Int := (Int32.ofInt x).toInt
def w64 (x : Int) : Int := (Int64.ofInt x).toInt
def inR (x : Int) : Prop := -2147483648 ≤ x ∧ x ≤ 2147483647
def inL (x : Int) : Prop := -9223372036854775808 ≤ x ∧ x ≤ 9223372036854775807
def b01 (x : Int) : Prop := x = 0 ∨ x = 1
def vI (x : Int) : Value := .int (Int32.ofInt x)
def vL (x : Int) : Value := .long (Int64.ofInt x)
def vR (ad : Nat → Nat) (o : Int) : Value := .ref (ad o.toNat)
def upd2 (h : HP) (p i v : Int) : HP := fun q j => if q = p ∧ j = i then v else h q j
def blit (h : HP) (p i q j n : Int) : HP := fun a k => if a = q ∧ j ≤ k ∧ k < j + n then h p (i + (k - j)) else h a k
theorem inR_w32 (x : Int) : inR (w32 x) := ⟨Int32.le_toInt _, by have := Int32.toInt_lt (Int32.ofInt x); unfold w32; omega⟩
theorem inL_w64 (x : Int) : inL (w64 x) := ⟨Int64.le_toInt _, by have := Int64.toInt_lt (Int64.ofInt x); unfold w64; omega⟩
theorem w32_id {x : Int} (h1 : -2147483648 ≤ x) (h2 : x ≤ 2147483647) : w32 x = x := Int32.toInt_ofInt_of_le (by omega) (by omega)
theorem w64_id {x : Int} (h1 : -9223372036854775808 ≤ x) (h2 : x ≤ 9223372036854775807) : w64 x = x := Int64.toInt_ofInt_of_le (by omega) (by omega)
theorem toI32 {x : Int} (h : inR x) : (Int32.ofInt x).toInt = x := w32_id h.1 h.2
theorem toI64 {x : Int} (h : inL x) : (Int64.ofInt x).toInt = x := w64_id h.1 h.2
theorem ofI32 (x : Int) : Int32.ofInt (w32 x) = Int32.ofInt x := Int32.ofInt_toInt _
theorem ofI64 (x : Int) : Int64.ofInt (w64 x) = Int64.ofInt x := Int64.ofInt_toInt _
theorem inR_of (x : Int32) : inR x.toInt := ⟨Int32.le_toInt _, by have := Int32.toInt_lt x; omega⟩
theorem inL_of (x : Int64) : inL x.toInt := ⟨Int64.le_toInt _, by have := Int64.toInt_lt x; omega⟩
theorem b01.R {x : Int} (h : b01 x) : inR x := by rcases h with rfl | rfl <;> exact ⟨by decide, by decide⟩
theorem inR_c {x : Int} (h : (decide (-2147483648 ≤ x) && decide (x ≤ 2147483647)) = true) : inR x := by
  simp only [Bool.and_eq_true, decide_eq_true_eq] at h
  exact h
theorem inL_c {x : Int} (h : (decide (-9223372036854775808 ≤ x) && decide (x ≤ 9223372036854775807)) = true) : inL x := by
  simp only [Bool.and_eq_true, decide_eq_true_eq] at h
  exact h
theorem inR.L {x : Int} (h : inR x) : inL x := ⟨by have := h.1; omega, by have := h.2; omega⟩
theorem lt32 {x y : Int} (hx : inR x) (hy : inR y) : Int32.ofInt x < Int32.ofInt y ↔ x < y := by rw [Int32.lt_iff_toInt_lt, toI32 hx, toI32 hy]
theorem le32 {x y : Int} (hx : inR x) (hy : inR y) : Int32.ofInt x ≤ Int32.ofInt y ↔ x ≤ y := by rw [Int32.le_iff_toInt_le, toI32 hx, toI32 hy]
theorem eq32 {x y : Int} (hx : inR x) (hy : inR y) : Int32.ofInt x = Int32.ofInt y ↔ x = y := ⟨fun h => by rw [← toI32 hx, ← toI32 hy, h], fun h => by rw [h]⟩
theorem lt64 {x y : Int} (hx : inL x) (hy : inL y) : Int64.ofInt x < Int64.ofInt y ↔ x < y := by rw [Int64.lt_iff_toInt_lt, toI64 hx, toI64 hy]
theorem eq64 {x y : Int} (hx : inL x) (hy : inL y) : Int64.ofInt x = Int64.ofInt y ↔ x = y := ⟨fun h => by rw [← toI64 hx, ← toI64 hy, h], fun h => by rw [h]⟩
theorem add32 (x y : Int) : Int32.ofInt x + Int32.ofInt y = Int32.ofInt (x + y) := (Int32.ofInt_add x y).symm
theorem sub32 (x y : Int) : Int32.ofInt x - Int32.ofInt y = Int32.ofInt (x - y) := (Int32.ofInt_sub x y).symm
theorem mul32 (x y : Int) : Int32.ofInt x * Int32.ofInt y = Int32.ofInt (x * y) := (Int32.ofInt_mul x y).symm
theorem neg32 (x : Int) : - Int32.ofInt x = Int32.ofInt (-x) := (Int32.ofInt_neg x).symm
theorem add64 (x y : Int) : Int64.ofInt x + Int64.ofInt y = Int64.ofInt (x + y) := (Int64.ofInt_add x y).symm
theorem sub64 (x y : Int) : Int64.ofInt x - Int64.ofInt y = Int64.ofInt (x - y) := (Int64.ofInt_sub x y).symm
theorem mul64 (x y : Int) : Int64.ofInt x * Int64.ofInt y = Int64.ofInt (x * y) := (Int64.ofInt_mul x y).symm
/-- what isn't plus, minus, times: by the machine's own words -/
def iAnd (x y : Int) : Int := (Int32.ofInt x &&& Int32.ofInt y).toInt
def iOr (x y : Int) : Int := (Int32.ofInt x ||| Int32.ofInt y).toInt
def iXor (x y : Int) : Int := (Int32.ofInt x ^^^ Int32.ofInt y).toInt
def iShl (x y : Int) : Int := (Int32.ofInt x <<< (Int32.ofInt y &&& 31)).toInt
def iShr (x y : Int) : Int := (Int32.ofInt x >>> (Int32.ofInt y &&& 31)).toInt
def iUshr (x y : Int) : Int := ((Int32.ofInt x).toUInt32 >>> ((Int32.ofInt y).toUInt32 &&& Int32.toUInt32 31)).toInt32.toInt
def iDiv (x y : Int) : Int := (Int32.ofInt x / Int32.ofInt y).toInt
def iRem (x y : Int) : Int := (Int32.ofInt x - Int32.ofInt x / Int32.ofInt y * Int32.ofInt y).toInt
def lAnd (x y : Int) : Int := (Int64.ofInt x &&& Int64.ofInt y).toInt
def lOr (x y : Int) : Int := (Int64.ofInt x ||| Int64.ofInt y).toInt
def lShl (x y : Int) : Int := (Int64.ofInt x <<< ((Int32.ofInt y).toInt64 &&& 63)).toInt
def lDiv (x y : Int) : Int := (Int64.ofInt x / Int64.ofInt y).toInt
def lRem (x y : Int) : Int := (Int64.ofInt x - Int64.ofInt x / Int64.ofInt y * Int64.ofInt y).toInt
def l2i (x : Int) : Int := (Int64.ofInt x).toInt32.toInt
def i2b (x : Int) : Int := (Int32.ofInt x).toInt8.toInt32.toInt
def i2s (x : Int) : Int := (Int32.ofInt x).toInt16.toInt32.toInt
def lCmp (x y : Int) : Int := if x < y then -1 else if x = y then 0 else 1
theorem inR_lCmp (x y : Int) : inR (lCmp x y) := by
  unfold lCmp inR
  split
  · omega
  · split <;> omega
/-- what a kind's cells hold: 0 an int, 1 a long, 2 a boolean, 3 another cell, so many places behind -/
def fv (ad : Nat → Nat) (h : HP) (k j : Nat) (t : Nat × Nat) : Value := match t with
  | (0, _) => vI (h k j)
  | (1, _) => vL (h k j)
  | (2, _) => vI (h k j)
  | (_, off) => .ref (ad (k + off))
def FT : Nat → List (Nat × Nat) := fun ci => match ci with
  | 0 => [(0, 0)]
  | 1 => [(0, 0), (0, 0), (0, 0), (0, 0), (3, 1), (3, 2), (3, 3), (3, 12), (3, 21), (3, 22), (3, 23), (3, 24), (3, 25), (3, 26), (3, 27), (3, 28), (3, 29)]
  | 2 => [(3, 1)]
  | 3 => [(3, 1), (0, 0), (1, 0), (3, 2), (1, 0), (0, 0), (1, 0), (1, 0), (1, 0)]
  | 4 => [(0, 0), (0, 0), (3, 1), (3, 2), (3, 3), (3, 4), (3, 5), (3, 6)]
  | 5 => [(1, 0), (1, 0)]
  | 6 => [(0, 0), (3, 1), (3, 2), (3, 3), (3, 4)]
  | 7 => [(0, 0), (0, 0), (3, 1)]
  | 8 => [(0, 0), (3, 1)]
  | 9 => [(3, 1), (3, 31), (3, 61), (2, 0), (3, 91), (3, 93), (3, 94), (3, 97), (3, 98), (3, 99), (3, 106), (3, 108), (3, 113)]
  | 10 => [(0, 0), (0, 0), (3, 1), (3, 2), (3, 3), (3, 4), (3, 5), (3, 6), (3, 7), (3, 8), (3, 9), (3, 10), (3, 11), (3, 12), (3, 13), (0, 0), (0, 0), (3, 14), (0, 0), (3, 15), (2, 0), (0, 0), (2, 0), (0, 0), (2, 0), (0, 0), (3, 16), (3, 17), (1, 0), (0, 0), (3, 18), (3, 19), (3, 20), (3, 21), (3, 22), (3, 23), (3, 24), (3, 25), (0, 0), (0, 0), (3, 26), (3, 27), (3, 28), (3, 29), (3, 36), (3, 37), (3, 38)]
  | _ => []
def FK : Nat → List (Nat × (Nat × Nat)) := fun ci => match ci with
  | 0 => []
  | 1 => [(1, (0, 8)), (2, (0, 8)), (3, (3, 0)), (12, (3, 1)), (21, (0, 8)), (22, (0, 8)), (23, (0, 6)), (24, (0, 5)), (25, (0, 5)), (26, (2, 5)), (27, (0, 8)), (28, (0, 8)), (29, (0, 8))]
  | 2 => [(1, (0, 8))]
  | 3 => [(1, (0, 4)), (2, (1, 33))]
  | 4 => [(1, (0, 28)), (2, (0, 28)), (3, (1, 28)), (4, (1, 28)), (5, (4, 5)), (6, (4, 5))]
  | 5 => []
  | 6 => [(1, (0, 6)), (2, (0, 6)), (3, (0, 6)), (4, (0, 6))]
  | 7 => [(1, (1, 60))]
  | 8 => [(1, (0, 60))]
  | 9 => [(1, (4, 1)), (31, (4, 1)), (61, (4, 1)), (91, (4, 8)), (93, (3, 2)), (94, (4, 3)), (97, (4, 5)), (98, (4, 5)), (99, (4, 4)), (106, (4, 2)), (108, (4, 6)), (113, (4, 0))]
  | 10 => [(1, (0, 8)), (2, (0, 8)), (3, (0, 32)), (4, (0, 64)), (5, (0, 8)), (6, (0, 8)), (7, (0, 6)), (8, (0, 5)), (9, (0, 5)), (10, (0, 5)), (11, (0, 8)), (12, (0, 8)), (13, (0, 8)), (14, (0, 60)), (15, (0, 200)), (16, (1, 33)), (17, (1, 33)), (18, (0, 28)), (19, (0, 28)), (20, (1, 28)), (21, (1, 28)), (22, (2, 28)), (23, (0, 8)), (24, (0, 6)), (25, (0, 6)), (26, (0, 64)), (27, (0, 8)), (28, (0, 8)), (29, (3, 3)), (36, (0, 6)), (37, (0, 6)), (38, (1, 60))]
  | _ => []
def RTn : Nat → Nat := fun r => match r with
  | 0 => 8
  | 1 => 8
  | 2 => 6
  | 3 => 6
  | _ => 0
def RTo : Nat → Nat := fun r => match r with
  | 0 => 1
  | 1 => 1
  | 2 => 21
  | 3 => 1
  | _ => 0
def RTs : Nat → Nat := fun r => match r with
  | 0 => 1
  | 1 => 1
  | 2 => 2
  | 3 => 1
  | _ => 0
def RTa : Nat → Nat := fun r => match r with
  | 0 => 3
  | 1 => 3
  | 2 => 4
  | _ => 5
def RTk : Nat → Nat × Nat := fun r => match r with
  | 0 => (0, 4)
  | 1 => (0, 8)
  | 2 => (4, 7)
  | 3 => (1, 60)
  | _ => (9, 9)
def ent (ad : Nat → Nat) (cA : Nat → ClassId) (h : HP) (k : Nat) (kd : Nat × Nat) : va_E := match kd with
  | (0, n) => .inl (cA 0, n, .inl (fun j => Int32.ofInt (h k j)))
  | (1, n) => .inl (cA 1, n, .inr (.inl (fun j => Int64.ofInt (h k j))))
  | (2, n) => .inl (cA 2, n, .inl (fun j => Int32.ofInt (h k j)))
  | (3, r) => .inl (cA (RTa r), RTn r, .inr (.inr (.inr (.inr (fun j => some (ad (k + RTo r + RTs r * j)))))))
  | (_, ci) => .inr (ci, (FT ci).mapIdx (fv ad h k))
def tysOf (cA : Nat → ClassId) : List (ClassId × FieldType) := [(cA 0, .int), (cA 1, .long), (cA 2, .boolean), (cA 3, .array .int), (cA 4, .object "CopyBench$Tape"), (cA 5, .array .long)]
def ws (τ : TP) (ad : Nat → Nat) (cA : Nat → ClassId) (h : HP) : va_W := τ.mapIdx (fun k kd => (ad k, ent ad cA h k kd))
theorem ws_get {τ : TP} {ad : Nat → Nat} {cA : Nat → ClassId} {h : HP} {k : Nat} {kd : Nat × Nat} (hk : τ[k]? = some kd) : (ws τ ad cA h)[k]? = some (ad k, ent ad cA h k kd) := by
  unfold ws
  rw [List.getElem?_mapIdx, hk]
  rfl
theorem ent_congr {ad : Nat → Nat} {cA : Nat → ClassId} {h h' : HP} {k : Nat} {kd : Nat × Nat} (e : ∀ j : Int, h k j = h' k j) : ent ad cA h k kd = ent ad cA h' k kd := by
  have e1 : h k = h' k := funext e
  unfold ent fv
  rw [e1]
theorem ws_set {τ : TP} {ad : Nat → Nat} {cA : Nat → ClassId} {h h' : HP} {k : Nat} {kd : Nat × Nat} {x : va_E} (hk : τ[k]? = some kd) (he : x = ent ad cA h' k kd) (ho : ∀ q : Nat, q ≠ k → ∀ j : Int, h q j = h' q j) : (ws τ ad cA h).set k (ad k, x) = ws τ ad cA h' := by
  apply List.ext_getElem?
  intro q
  by_cases hq : q = k
  · subst hq
    have hl : q < (ws τ ad cA h).length := by
      unfold ws
      rw [List.length_mapIdx]
      exact (List.getElem?_eq_some_iff.mp hk).1
    rw [List.getElem?_set_self hl, ws_get hk, he]
  · rw [List.getElem?_set_ne (fun e => hq e.symm)]
    unfold ws
    rw [List.getElem?_mapIdx, List.getElem?_mapIdx]
    cases τ[q]? with
    | none => rfl
    | some kd' =>
      show some (ad q, ent ad cA h q kd') = some (ad q, ent ad cA h' q kd')
      rw [ent_congr (ho q hq)]
/-- the numbers' ranges -/
def okv (t : Nat) (x : Int) : Prop := match t with
  | 0 => inR x
  | 1 => inL x
  | 2 => b01 x
  | _ => True
def hr1 (h : HP) (k : Nat) (kd : Nat × Nat) : Prop := match kd with
  | (0, n) => ∀ j : Nat, j < n → inR (h k j)
  | (1, n) => ∀ j : Nat, j < n → inL (h k j)
  | (2, n) => ∀ j : Nat, j < n → b01 (h k j)
  | (3, _) => True
  | (_, ci) => ∀ (j : Nat) (t : Nat × Nat), (FT ci)[j]? = some t → okv t.1 (h k j)
def hr (τ : TP) (h : HP) : Prop := ∀ (k : Nat) (kd : Nat × Nat), τ[k]? = some kd → hr1 h k kd
theorem hr1_congr {h h' : HP} {k : Nat} {kd : Nat × Nat} (e : ∀ j : Int, h k j = h' k j) : hr1 h k kd = hr1 h' k kd := by
  have e1 : h k = h' k := funext e
  unfold hr1
  rw [e1]
theorem hr_set {τ : TP} {h h' : HP} {k : Nat} {kd : Nat × Nat} (hh : hr τ h) (hk : τ[k]? = some kd) (h1 : hr1 h' k kd) (ho : ∀ q : Nat, q ≠ k → ∀ j : Int, h q j = h' q j) : hr τ h' := by
  intro q kd' hq
  by_cases e : q = k
  · subst e
    cases hk.symm.trans hq
    exact h1
  · rw [← hr1_congr (ho q e)]
    exact hh q kd' hq
def ok (τ : TP) (kd : Nat × Nat) (o : Int) : Prop := 0 ≤ o ∧ τ[o.toNat]? = some kd
def wf1 (τ : TP) (k : Nat) (kd : Nat × Nat) : Bool := match kd with
  | (3, r) => (List.range (RTn r)).all (fun i => τ[k + RTo r + RTs r * i]? == some (RTk r))
  | (4, ci) => (FK ci).all (fun q => τ[k + q.1]? == some q.2)
  | _ => true
def wf (τ : TP) : Prop := ∀ (k : Nat) (kd : Nat × Nat), τ[k]? = some kd → wf1 τ k kd = true
theorem wf_of {τ : TP} (h : (List.range τ.length).all (fun k => wf1 τ k (τ.getD k (9, 9))) = true) : wf τ := by
  intro k kd hk
  have hl := (List.getElem?_eq_some_iff.mp hk).1
  have h1 := List.all_eq_true.mp h k (List.mem_range.mpr hl)
  rwa [List.getD_eq_getElem?_getD, hk] at h1
theorem ok_fld {τ : TP} {o : Int} {ci off : Nat} {c : Int} {kd : Nat × Nat} (hw : wf τ) (ho : ok τ (4, ci) o) (hc : (off : Int) = c) (hm : (off, kd) ∈ FK ci) : ok τ kd (o + c) := by
  have h1 := hw _ _ ho.2
  have h2 := List.all_eq_true.mp h1 _ hm
  have h3 : τ[o.toNat + off]? = some kd := by simpa using h2
  have h0 := ho.1
  refine ⟨by omega, ?_⟩
  rw [show (o + c).toNat = o.toNat + off by omega]
  exact h3
theorem ok_elt {τ : TP} {a i : Int} {r : Nat} (n c s : Int) {kd : Nat × Nat} (hw : wf τ) (ho : ok τ (3, r) a) (hn : (RTn r : Int) = n) (hc : (RTo r : Int) = c) (hs : (RTs r : Int) = s) (hk : RTk r = kd) (hi : 0 ≤ i ∧ i < n) : ok τ kd (a + c + s * i) := by
  have h1 := hw _ _ ho.2
  have h2 := List.all_eq_true.mp h1 i.toNat (List.mem_range.mpr (by omega))
  have h3 : τ[a.toNat + RTo r + RTs r * i.toNat]? = some (RTk r) := by simpa using h2
  have h0 := ho.1
  have e1 : ((RTs r * i.toNat : Nat) : Int) = s * i := by
    rw [Int.natCast_mul, hs, Int.toNat_of_nonneg hi.1]
  have e2 : 0 ≤ s * i := by omega
  refine ⟨by omega, ?_⟩
  rw [← hk, show (a + c + s * i).toNat = a.toNat + RTo r + RTs r * i.toNat by omega]
  exact h3
