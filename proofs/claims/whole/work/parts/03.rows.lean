/-! THE WALK OVER THE PURE HEAP: Y h pc lv st says that the machine at pc, with these locals and this stack, its cells as h says, comes to its end. -/
def rv (ret : Option FieldType) (v : Option Value) : Prop := match ret with
  | none => v = none
  | some .int => ∃ x : Int, v = some (vI x)
  | some .boolean => ∃ x : Int, b01 x ∧ v = some (vI x)
  | some .long => ∃ x : Int, v = some (vL x)
  | _ => False
def retI (ret : Option FieldType) : Instr := match ret with
  | none => .return_
  | some .long => .lreturn
  | _ => .ireturn
def Isy (l : Launch) (τ : TP) (ad : Nat → Nat) (cc : ByteArray) (nL : Nat) (own : String) (R : Room) (ret : Option FieldType) (K : Option Value → HP → Prop) (Y : HP → Nat → List (Nat × Value) → List Value → Prop) : Prop :=
  ∃ (p : Program) (e : Env) (s : State) (m : MethodId) (args : Array Value) (below : List Frame) (meth : Method) (c : Code) (cells slots : Nat) (Q : State → Prop) (D : va_G) (cA : Nat → ClassId) (A : Nat → Prop) (H0 : Heap),
    p.tables.exec = Jvm.exec ∧ c.code = cc ∧ c.maxLocals = nL ∧ s.vm.findClass own = some m.cls ∧ (∀ w ∈ gd, w.before args s = true) ∧ va_K D CL (tysOf cA) s ∧ wf τ ∧ (∀ k : Nat, k < τ.length → A (ad k)) ∧ cells ≤ R.cells ∧ slots ≤ R.slots ∧
    (Y = fun h pc lv st => ∀ (H : Heap) (locs : List Loc) (ls : Array Slot), va_P D CL (ws τ ad cA h) H → va_D A (ws τ ad cA h) → va_S A H0 H locs → lv_has ls nL lv → hr τ h → W p l e R s m args below meth c H locs cells slots Q (F0 m pc ls st)) ∧
    (∀ (h : HP) (pc : Nat) (lv : List (Nat × Value)) (v : Option Value), K v h → rv ret v → decode cc pc = .ok (retI ret, 1) → Y h pc lv v.toList)
def Z (Y : HP → Nat → List (Nat × Value) → List Value → Prop) {X : Type} (T : Option X) (G : X → Prop) (h : HP) (pc : Nat) (lv : List (Nat × Value)) (st : List Value) : Prop := ∀ x, T = some x → G x → Y h pc lv st
def St (cc : ByteArray) (nL : Nat) (pc : Nat) (lv : List (Nat × Value)) (st : List Value) (pc' : Nat) (lv' : List (Nat × Value)) (st' : List Value) : Prop :=
  ∀ (p : Program) (l : Launch) (e : Env) (R : Room) (s : State) (m : MethodId) (args : Array Value) (below : List Frame) (meth : Method) (c : Code) (H : Heap) (locs : List Loc) (cells slots : Nat) (Q : State → Prop) (ls : Array Slot),
    p.tables.exec = Jvm.exec → c.code = cc → lv_has ls nL lv → (∀ ls' : Array Slot, lv_has ls' nL lv' → W p l e R s m args below meth c H locs cells slots Q (F0 m pc' ls' st')) → W p l e R s m args below meth c H locs cells slots Q (F0 m pc ls st)
section RowsA
variable {l : Launch} {τ : TP} {ad : Nat → Nat} {cc : ByteArray} {nL : Nat} {own : String} {R : Room} {ret : Option FieldType} {K : Option Value → HP → Prop} {Y : HP → Nat → List (Nat × Value) → List Value → Prop}
variable {X : Type} {T T1 T2 : Option X} {G : X → Prop} {h h' : HP} {pc pc' tgt : Nat} {lv lv' : List (Nat × Value)} {st st' rest : List Value} {x y z i : Int} {off : Int}
theorem z_s (I : Isy l τ ad cc nL own R ret K Y) (S : St cc nL pc lv st pc' lv' st') (k : Z Y T G h pc' lv' st') : Z Y T G h pc lv st := by
  obtain ⟨p, e, s, m, args, below, meth, c, cells, slots, Q, D, cA, A, H0, hx, hb, hml, hown, hts, hK, hw, hA, hc, hs, rfl, hret⟩ := I
  intro r hT hG H locs ls hP hD hS hl hh
  exact S p l e R s m args below meth c H locs cells slots Q ls hx hb hl (fun ls' hl' => k r hT hG H locs ls' hP hD hS hl' hh)
theorem St.then {pc'' : Nat} {lv'' : List (Nat × Value)} {st'' : List Value} (a : St cc nL pc lv st pc' lv' st') (b : St cc nL pc' lv' st' pc'' lv'' st'') : St cc nL pc lv st pc'' lv'' st'' :=
  fun p l e R s m args below meth c H locs cells slots Q ls hx hb hl k => a p l e R s m args below meth c H locs cells slots Q ls hx hb hl (fun ls' hl' => b p l e R s m args below meth c H locs cells slots Q ls' hx hb hl' k)
theorem s_iconst {n : Int} (d : decode cc pc = .ok (.iconst n, 1)) (hp : pc + 1 = pc') : St cc nL pc lv st pc' lv (vI n :: st) := by
  subst hp
  exact fun p l e R s m args below meth c H locs cells slots Q ls hx hb hl k => lv_iconst hx hb d rfl (k ls hl)
theorem s_bipush {n : Int} (d : decode cc pc = .ok (.bipush n, 2)) (hv : (Int8.ofInt n).toInt32 = Int32.ofInt n) (hp : pc + 2 = pc') : St cc nL pc lv st pc' lv (vI n :: st) := by
  subst hp
  exact fun p l e R s m args below meth c H locs cells slots Q ls hx hb hl k => lv_bipush hx hb d hv (k ls hl)
theorem s_sipush {n : Int} (d : decode cc pc = .ok (.sipush n, 3)) (hv : (Int16.ofInt n).toInt32 = Int32.ofInt n) (hp : pc + 3 = pc') : St cc nL pc lv st pc' lv (vI n :: st) := by
  subst hp
  exact fun p l e R s m args below meth c H locs cells slots Q ls hx hb hl k => lv_sipush hx hb d hv (k ls hl)
theorem s_lconst {n : Fin 2} {x : Int} (d : decode cc pc = .ok (.lconst n, 1)) (hv : Int64.ofNat (n : Nat) = Int64.ofInt x) (hp : pc + 1 = pc') : St cc nL pc lv st pc' lv (vL x :: st) := by
  subst hp
  exact fun p l e R s m args below meth c H locs cells slots Q ls hx hb hl k => lv_lconst hx hb d hv (k ls hl)
theorem s_iload_n {q : Fin 4} {j : Nat} (n : Nat) (hn : lv[n]? = some (j, vI x)) (d : decode cc pc = .ok (.iload_n q, 1)) (hq : (q : Nat) = j) (hp : pc + 1 = pc') : St cc nL pc lv st pc' lv (vI x :: st) := by
  subst hp
  exact fun p l e R s m args below meth c H locs cells slots Q ls hx hb hl k => lv_iload_n hx hb d hq (lv_at hl n hn) (k ls hl)
theorem s_iload {j : Nat} (n : Nat) (hn : lv[n]? = some (j, vI x)) (d : decode cc pc = .ok (.iload j, 2)) (hp : pc + 2 = pc') : St cc nL pc lv st pc' lv (vI x :: st) := by
  subst hp
  exact fun p l e R s m args below meth c H locs cells slots Q ls hx hb hl k => lv_iload hx hb d (lv_at hl n hn) (k ls hl)
theorem s_lload_n {q : Fin 4} {j : Nat} (n : Nat) (hn : lv[n]? = some (j, vL x)) (d : decode cc pc = .ok (.lload_n q, 1)) (hq : (q : Nat) = j) (hp : pc + 1 = pc') : St cc nL pc lv st pc' lv (vL x :: st) := by
  subst hp
  exact fun p l e R s m args below meth c H locs cells slots Q ls hx hb hl k => lv_lload_n hx hb d hq (lv_at hl n hn) (k ls hl)
theorem s_lload {j : Nat} (n : Nat) (hn : lv[n]? = some (j, vL x)) (d : decode cc pc = .ok (.lload j, 2)) (hp : pc + 2 = pc') : St cc nL pc lv st pc' lv (vL x :: st) := by
  subst hp
  exact fun p l e R s m args below meth c H locs cells slots Q ls hx hb hl k => lv_lload hx hb d (lv_at hl n hn) (k ls hl)
theorem s_aload_n {q : Fin 4} {j : Nat} {ad : Nat → Nat} (n : Nat) (hn : lv[n]? = some (j, vR ad x)) (d : decode cc pc = .ok (.aload_n q, 1)) (hq : (q : Nat) = j) (hp : pc + 1 = pc') : St cc nL pc lv st pc' lv (vR ad x :: st) := by
  subst hp
  exact fun p l e R s m args below meth c H locs cells slots Q ls hx hb hl k => lv_aload_n hx hb d hq (lv_at hl n hn) (k ls hl)
theorem s_aload {j : Nat} {ad : Nat → Nat} (n : Nat) (hn : lv[n]? = some (j, vR ad x)) (d : decode cc pc = .ok (.aload j, 2)) (hp : pc + 2 = pc') : St cc nL pc lv st pc' lv (vR ad x :: st) := by
  subst hp
  exact fun p l e R s m args below meth c H locs cells slots Q ls hx hb hl k => lv_aload hx hb d (lv_at hl n hn) (k ls hl)
/-- the locals behind a store of one word, of two -/
def lset (j : Nat) (v : Value) (lv : List (Nat × Value)) : List (Nat × Value) := (j, v) :: lv.filter (fun q => !(q.1 == j) && !(q.1 + 1 == j && q.2.category == 2))
def lset2 (j : Nat) (v : Value) (lv : List (Nat × Value)) : List (Nat × Value) := (j, v) :: lv.filter (fun q => !(q.1 == j) && (!(q.1 == j + 1) && !(q.1 + 1 == j && q.2.category == 2)))
theorem s_istore_n {q : Fin 4} {j : Nat} (d : decode cc pc = .ok (.istore_n q, 1)) (hq : (q : Nat) = j) (hj : j < nL) (hl' : lset j (vI x) lv = lv') (hp : pc + 1 = pc') : St cc nL pc lv (vI x :: st) pc' lv' st := by
  subst hp
  exact fun p l e R s m args below meth c H locs cells slots Q ls hx hb hl k => lv_istore_n hx hb d hq hl hj hl' k
theorem s_istore {j : Nat} (d : decode cc pc = .ok (.istore j, 2)) (hj : j < nL) (hl' : lset j (vI x) lv = lv') (hp : pc + 2 = pc') : St cc nL pc lv (vI x :: st) pc' lv' st := by
  subst hp
  exact fun p l e R s m args below meth c H locs cells slots Q ls hx hb hl k => lv_istore hx hb d hl hj hl' k
theorem s_lstore_n {q : Fin 4} {j : Nat} (d : decode cc pc = .ok (.lstore_n q, 1)) (hq : (q : Nat) = j) (hj : j + 1 < nL) (hl' : lset2 j (vL x) lv = lv') (hp : pc + 1 = pc') : St cc nL pc lv (vL x :: st) pc' lv' st := by
  subst hp
  exact fun p l e R s m args below meth c H locs cells slots Q ls hx hb hl k => lv_lstore_n hx hb d hq hl hj hl' k
theorem s_lstore {j : Nat} (d : decode cc pc = .ok (.lstore j, 2)) (hj : j + 1 < nL) (hl' : lset2 j (vL x) lv = lv') (hp : pc + 2 = pc') : St cc nL pc lv (vL x :: st) pc' lv' st := by
  subst hp
  exact fun p l e R s m args below meth c H locs cells slots Q ls hx hb hl k => lv_lstore hx hb d hl hj hl' k
theorem s_astore_n {q : Fin 4} {j : Nat} {ad : Nat → Nat} (d : decode cc pc = .ok (.astore_n q, 1)) (hq : (q : Nat) = j) (hj : j < nL) (hl' : lset j (vR ad x) lv = lv') (hp : pc + 1 = pc') : St cc nL pc lv (vR ad x :: st) pc' lv' st := by
  subst hp
  exact fun p l e R s m args below meth c H locs cells slots Q ls hx hb hl k => lv_astore_n hx hb d hq hl hj hl' k
theorem s_astore {j : Nat} {ad : Nat → Nat} (d : decode cc pc = .ok (.astore j, 2)) (hj : j < nL) (hl' : lset j (vR ad x) lv = lv') (hp : pc + 2 = pc') : St cc nL pc lv (vR ad x :: st) pc' lv' st := by
  subst hp
  exact fun p l e R s m args below meth c H locs cells slots Q ls hx hb hl k => lv_astore hx hb d hl hj hl' k
theorem s_iinc {j n : Nat} {a : Int} (hn : lv[n]? = some (j, vI x)) (d : decode cc pc = .ok (.iinc j a, 3)) (hj : j < nL) (hl' : lset j (vI (w32 (x + a))) lv = lv') (hp : pc + 3 = pc') : St cc nL pc lv st pc' lv' st := by
  subst hp
  exact fun p l e R s m args below meth c H locs cells slots Q ls hx hb hl k => lv_iinc hx hb d hl hn (by rw [add32, ofI32]) hj hl' k
theorem s_lv (ks : List Nat) (hk : lv_pick lv ks = lv') : St cc nL pc lv st pc lv' st :=
  fun p l e R s m args below meth c H locs cells slots Q ls hx hb hl k => k ls (lv_sub hl ks hk)
theorem s_iadd (d : decode cc pc = .ok (.iadd, 1)) (hp : pc + 1 = pc') : St cc nL pc lv (vI y :: vI x :: st) pc' lv (vI (w32 (x + y)) :: st) := by
  subst hp
  exact fun p l e R s m args below meth c H locs cells slots Q ls hx hb hl k => lv_iadd hx hb d (by rw [add32, ← ofI32]; exact k ls hl)
theorem s_isub (d : decode cc pc = .ok (.isub, 1)) (hp : pc + 1 = pc') : St cc nL pc lv (vI y :: vI x :: st) pc' lv (vI (w32 (x - y)) :: st) := by
  subst hp
  exact fun p l e R s m args below meth c H locs cells slots Q ls hx hb hl k => lv_isub hx hb d (by rw [sub32, ← ofI32]; exact k ls hl)
theorem s_imul (d : decode cc pc = .ok (.imul, 1)) (hp : pc + 1 = pc') : St cc nL pc lv (vI y :: vI x :: st) pc' lv (vI (w32 (x * y)) :: st) := by
  subst hp
  exact fun p l e R s m args below meth c H locs cells slots Q ls hx hb hl k => lv_imul hx hb d (by rw [mul32, ← ofI32]; exact k ls hl)
theorem s_ineg (d : decode cc pc = .ok (.ineg, 1)) (hp : pc + 1 = pc') : St cc nL pc lv (vI x :: st) pc' lv (vI (w32 (-x)) :: st) := by
  subst hp
  exact fun p l e R s m args below meth c H locs cells slots Q ls hx hb hl k => lv_ineg hx hb d (by rw [neg32, ← ofI32]; exact k ls hl)
theorem s_iand (d : decode cc pc = .ok (.iand, 1)) (hp : pc + 1 = pc') : St cc nL pc lv (vI y :: vI x :: st) pc' lv (vI (iAnd x y) :: st) := by
  subst hp
  exact fun p l e R s m args below meth c H locs cells slots Q ls hx hb hl k => lv_iand hx hb d (by have := k ls hl; unfold vI iAnd at this; rwa [Int32.ofInt_toInt] at this)
theorem s_ior (d : decode cc pc = .ok (.ior, 1)) (hp : pc + 1 = pc') : St cc nL pc lv (vI y :: vI x :: st) pc' lv (vI (iOr x y) :: st) := by
  subst hp
  exact fun p l e R s m args below meth c H locs cells slots Q ls hx hb hl k => lv_ior hx hb d (by have := k ls hl; unfold vI iOr at this; rwa [Int32.ofInt_toInt] at this)
theorem s_ixor (d : decode cc pc = .ok (.ixor, 1)) (hp : pc + 1 = pc') : St cc nL pc lv (vI y :: vI x :: st) pc' lv (vI (iXor x y) :: st) := by
  subst hp
  exact fun p l e R s m args below meth c H locs cells slots Q ls hx hb hl k => lv_ixor hx hb d (by have := k ls hl; unfold vI iXor at this; rwa [Int32.ofInt_toInt] at this)
theorem s_ishl (d : decode cc pc = .ok (.ishl, 1)) (hp : pc + 1 = pc') : St cc nL pc lv (vI y :: vI x :: st) pc' lv (vI (iShl x y) :: st) := by
  subst hp
  exact fun p l e R s m args below meth c H locs cells slots Q ls hx hb hl k => lv_ishl hx hb d (by have := k ls hl; unfold vI iShl at this; rwa [Int32.ofInt_toInt] at this)
theorem s_ishr (d : decode cc pc = .ok (.ishr, 1)) (hp : pc + 1 = pc') : St cc nL pc lv (vI y :: vI x :: st) pc' lv (vI (iShr x y) :: st) := by
  subst hp
  exact fun p l e R s m args below meth c H locs cells slots Q ls hx hb hl k => lv_ishr hx hb d (by have := k ls hl; unfold vI iShr at this; rwa [Int32.ofInt_toInt] at this)
theorem s_iushr (d : decode cc pc = .ok (.iushr, 1)) (hp : pc + 1 = pc') : St cc nL pc lv (vI y :: vI x :: st) pc' lv (vI (iUshr x y) :: st) := by
  subst hp
  exact fun p l e R s m args below meth c H locs cells slots Q ls hx hb hl k => lv_iushr (v := Int32.ofInt (iUshr x y)) hx hb d (Int32.ofInt_toInt _).symm (k ls hl)
theorem s_ladd (d : decode cc pc = .ok (.ladd, 1)) (hp : pc + 1 = pc') : St cc nL pc lv (vL y :: vL x :: st) pc' lv (vL (w64 (x + y)) :: st) := by
  subst hp
  exact fun p l e R s m args below meth c H locs cells slots Q ls hx hb hl k => lv_ladd hx hb d (by rw [add64, ← ofI64]; exact k ls hl)
theorem s_lsub (d : decode cc pc = .ok (.lsub, 1)) (hp : pc + 1 = pc') : St cc nL pc lv (vL y :: vL x :: st) pc' lv (vL (w64 (x - y)) :: st) := by
  subst hp
  exact fun p l e R s m args below meth c H locs cells slots Q ls hx hb hl k => lv_lsub hx hb d (by rw [sub64, ← ofI64]; exact k ls hl)
theorem s_lmul (d : decode cc pc = .ok (.lmul, 1)) (hp : pc + 1 = pc') : St cc nL pc lv (vL y :: vL x :: st) pc' lv (vL (w64 (x * y)) :: st) := by
  subst hp
  exact fun p l e R s m args below meth c H locs cells slots Q ls hx hb hl k => lv_lmul hx hb d (by rw [mul64, ← ofI64]; exact k ls hl)
theorem s_land (d : decode cc pc = .ok (.land, 1)) (hp : pc + 1 = pc') : St cc nL pc lv (vL y :: vL x :: st) pc' lv (vL (lAnd x y) :: st) := by
  subst hp
  exact fun p l e R s m args below meth c H locs cells slots Q ls hx hb hl k => lv_land hx hb d (by have := k ls hl; unfold vL lAnd at this; rwa [Int64.ofInt_toInt] at this)
theorem s_lor (d : decode cc pc = .ok (.lor, 1)) (hp : pc + 1 = pc') : St cc nL pc lv (vL y :: vL x :: st) pc' lv (vL (lOr x y) :: st) := by
  subst hp
  exact fun p l e R s m args below meth c H locs cells slots Q ls hx hb hl k => lv_lor hx hb d (by have := k ls hl; unfold vL lOr at this; rwa [Int64.ofInt_toInt] at this)
theorem s_lshl (d : decode cc pc = .ok (.lshl, 1)) (hp : pc + 1 = pc') : St cc nL pc lv (vI y :: vL x :: st) pc' lv (vL (lShl x y) :: st) := by
  subst hp
  exact fun p l e R s m args below meth c H locs cells slots Q ls hx hb hl k => lv_lshl (v := Int64.ofInt (lShl x y)) hx hb d (Int64.ofInt_toInt _).symm (k ls hl)
theorem s_i2l (hr : inR x) (d : decode cc pc = .ok (.i2l, 1)) (hp : pc + 1 = pc') : St cc nL pc lv (vI x :: st) pc' lv (vL x :: st) := by
  subst hp
  exact fun p l e R s m args below meth c H locs cells slots Q ls hx hb hl k => lv_i2l (v := Int64.ofInt x) hx hb d (by rw [← Int64.toInt_inj, Int32.toInt_toInt64, toI32 hr, toI64 hr.L]) (k ls hl)
theorem s_l2i (d : decode cc pc = .ok (.l2i, 1)) (hp : pc + 1 = pc') : St cc nL pc lv (vL x :: st) pc' lv (vI (l2i x) :: st) := by
  subst hp
  exact fun p l e R s m args below meth c H locs cells slots Q ls hx hb hl k => lv_l2i (v := Int32.ofInt (l2i x)) hx hb d (Int32.ofInt_toInt _).symm (k ls hl)
theorem s_i2b (d : decode cc pc = .ok (.i2b, 1)) (hp : pc + 1 = pc') : St cc nL pc lv (vI x :: st) pc' lv (vI (i2b x) :: st) := by
  subst hp
  exact fun p l e R s m args below meth c H locs cells slots Q ls hx hb hl k => lv_i2b (v := Int32.ofInt (i2b x)) hx hb d (Int32.ofInt_toInt _).symm (k ls hl)
theorem s_i2s (d : decode cc pc = .ok (.i2s, 1)) (hp : pc + 1 = pc') : St cc nL pc lv (vI x :: st) pc' lv (vI (i2s x) :: st) := by
  subst hp
  exact fun p l e R s m args below meth c H locs cells slots Q ls hx hb hl k => lv_i2s (v := Int32.ofInt (i2s x)) hx hb d (Int32.ofInt_toInt _).symm (k ls hl)
theorem s_dup {v : Value} (hv : v.category = 1) (d : decode cc pc = .ok (.dup, 1)) (hp : pc + 1 = pc') : St cc nL pc lv (v :: st) pc' lv (v :: v :: st) := by
  subst hp
  exact fun p l e R s m args below meth c H locs cells slots Q ls hx hb hl k => lv_dup hx hb d hv (k ls hl)
theorem s_goto (d : decode cc pc = .ok (.goto off, 3)) (ht : (pc : Int) + off = (tgt : Int)) : St cc nL pc lv st tgt lv st :=
  fun p l e R s m args below meth c H locs cells slots Q ls hx hb hl k => lv_goto hx hb d ht (k ls hl)
end RowsA
