/-! CONSTRUCTORS: a world as a list of cells; the object under construction stands first -/
def nws : List Cond := [.methodLinkNest "CopyBench" 30 y_Text_init "CopyBench", .methodLinkNest "CopyBench" 43 y_Odds_init "CopyBench", .methodLinkNest "CopyBench" 50 y_Ratio_init "CopyBench", .methodLinkNest "CopyBench" 60 y_Ranking_init "CopyBench", .methodLinkNest "CopyBench$Ranking" 34 y_Ratio_init "CopyBench", .methodLinkNest "CopyBench" 67 y_Links_init "CopyBench", .methodLinkNest "CopyBench" 74 y_Seating_init "CopyBench", .methodLinkNest "CopyBench" 81 y_Draws_init "CopyBench", .methodLinkNest "CopyBench" 86 y_Tape_init "CopyBench"]
def AOA (t : FieldType) (U : State) : Prop := (Cond.arrayOver (.array t)).before #[] U = true
theorem AOA.moved {t : FieldType} {u U : State} (hvm : u.vm.Alike U.vm) (h : AOA t u) : AOA t U := by
  obtain ⟨comp, c, k, h1, h2, h3, h4, h5⟩ := arrayOverA_spec h
  obtain ⟨k', hk', he⟩ := hvm.2.2 _ _ h3
  have hi : (U.vm.classes.findIdx? fun (x : Class) => match x.kind with | .array component _ => component == comp | _ => false) = some c := by
    rw [hvm.findIdx?_eq _ (fun _ => rfl)]
    exact h2
  have hkind : k'.kind = .array comp (.array t) := by rw [he]; exact h4
  have f1 : U.vm.findClass (FieldType.array t).toString = some comp := by rw [hvm.findClass]; exact h1
  have f2 : U.vm.findClass ("[" ++ (FieldType.array t).toString) = some c := by rw [hvm.findClass]; exact h5
  unfold AOA Cond.before Cond.holds
  simp only [Cond.value]
  rw [f1, Option.bind_some]
  refine (congrArg (fun o : Option Nat => (o.bind (fun c => (U.vm.classes[c]?).map fun (k : Class) => match k.kind with | .array _ ty => decide (ty = FieldType.array t) && decide (U.vm.findClass ("[" ++ (FieldType.array t).toString) = some c) | _ => false) == some true)) hi).trans ?_
  simp [hk', hkind, f2]
def NW (U : State) : Prop := (∀ w ∈ nws, va_Nw w U) ∧ va_AO "CopyBench$Tape" U ∧ AOA .int U ∧ AOA .long U
theorem NW.warm {s U : State} (hW : s.WarmedH U.vm) (h : NW s) : NW U := by
  refine ⟨fun w hw => ?_, va_AO.moved hW.alike h.2.1, AOA.moved hW.alike h.2.2.1, AOA.moved hW.alike h.2.2.2⟩
  have h1 := h.1 w hw
  simp only [nws, List.mem_cons, List.not_mem_nil, or_false] at hw
  rcases hw with rfl | rfl | rfl | rfl | rfl | rfl | rfl | rfl | rfl <;> exact va_Nw.warmM hW h1
theorem NW.same {u U : State} (e : u.vm = U.vm) (h : NW u) : NW U := by
  have hA : u.vm.Alike U.vm := by rw [e]; exact Vm.Alike.refl U.vm
  refine ⟨fun w hw => ?_, va_AO.moved hA h.2.1, AOA.moved hA h.2.2.1, AOA.moved hA h.2.2.2⟩
  have h1 := h.1 w hw
  simp only [nws, List.mem_cons, List.not_mem_nil, or_false] at hw
  rcases hw with rfl | rfl | rfl | rfl | rfl | rfl | rfl | rfl | rfl <;> exact va_Nw.same rfl e h1
def dfv (t : Nat × Nat) : Value := match t with
  | (0, _) => .int 0
  | (1, _) => .long 0
  | (2, _) => .int 0
  | _ => .null
def nul (ci : Nat) : List Value := (FT ci).map dfv
def IniPc (D : va_G) (cA : Nat → ClassId) (q0 ci : Nat) (sz : Nat) : State → Prop := fun U => U.heap.size = sz ∧ va_P D CL [(q0, .inr (ci, nul ci))] U.heap ∧ va_K D CL (tysOf cA) U ∧ va_D (fun _ => True) [(q0, .inr (ci, nul ci))] ∧ NW U
def IniA (q0 ci : Nat) (sz : Nat) : Nat → Prop := va_A [(q0, .inr (ci, nul ci))] sz
def rmI (fr lo mc ms : Nat) : Room := { frames := fr, cells := mc, slots := ms, locals := lo }
/-- a constructor's contract: the new object, and all that it makes, come to hold h1 -/
def Ini (l : Launch) (y : MethodName) (cc : ByteArray) (nL fr lo mc ms ci : Nat) (τ : TP) (h1 : HP) : Prop := ∀ (D : va_G) (cA : Nat → ClassId) (q0 sz : Nat),
  Met l y (.code y cc nL none :: gd) (rmI fr lo mc ms) (va_Pc [.ref q0] (IniPc D cA q0 ci sz)) (va_Qv (fun ad : Nat → Nat => ad 0 = q0) (fun ad t => va_P D CL (ws τ ad cA h1) t.heap ∧ va_K D CL (tysOf cA) t ∧ va_D (IniA q0 ci sz) (ws τ ad cA h1) ∧ hr τ h1) (IniA q0 ci sz)) mc ms (IniA q0 ci sz)
def Isi (l : Launch) (D : va_G) (cA : Nat → ClassId) (cc : ByteArray) (nL : Nat) (own : String) (R : Room) (K : va_W → Prop) (mc ms : Nat) (A : Nat → Prop) (Y : va_W → Nat → Nat → Nat → List (Nat × Value) → List Value → Prop) : Prop :=
  ∃ (p : Program) (e : Env) (s : State) (m : MethodId) (args : Array Value) (below : List Frame) (meth : Method) (c : Code) (Q : State → Prop) (H0 : Heap),
    p.tables.exec = Jvm.exec ∧ c.code = cc ∧ c.maxLocals = nL ∧ s.vm.findClass own = some m.cls ∧ (∀ w ∈ gd, w.before args s = true) ∧ va_K D CL (tysOf cA) s ∧ NW s ∧ meth.name = "<init>" ∧ (∀ q, H0.size ≤ q → A q) ∧
    (Y = fun w cl sl pc lv st => ∀ (H : Heap) (locs : List Loc) (ls : Array Slot), va_P D CL w H → va_D A w → va_S A H0 H locs → lv_has ls nL lv → W p l e R s m args below meth c H locs cl sl Q (F0 m pc ls st)) ∧
    (∀ (w : va_W) (pc : Nat) (lv : List (Nat × Value)), K w → decode cc pc = .ok (.return_, 1) → Y w mc ms pc lv [])
section RowsI
variable {l : Launch} {D : va_G} {cA : Nat → ClassId} {cc : ByteArray} {nL : Nat} {own : String} {R : Room} {K : va_W → Prop} {mc ms : Nat} {A : Nat → Prop} {Y : va_W → Nat → Nat → Nat → List (Nat × Value) → List Value → Prop}
variable {w w' s : va_W} {cl sl pc pc' tgt : Nat} {lv lv' : List (Nat × Value)} {st st' rest : List Value} {q0 a : Nat} {off : Int}
theorem i_s (I : Isi l D cA cc nL own R K mc ms A Y) (S : St cc nL pc lv st pc' lv' st') (k : Y w cl sl pc' lv' st') : Y w cl sl pc lv st := by
  obtain ⟨p, e, s, m, args, below, meth, c, Q, H0, hx, hb, hml, hown, hts, hK, hN, hin, hA, rfl, hret⟩ := I
  intro H locs ls hP hD hS hl
  exact S p l e R s m args below meth c H locs cl sl Q ls hx hb hl (fun ls' hl' => k H locs ls' hP hD hS hl')
theorem s_raload_n {q : Fin 4} {j x : Nat} (n : Nat) (hn : lv[n]? = some (j, .ref x)) (d : decode cc pc = .ok (.aload_n q, 1)) (hq : (q : Nat) = j) (hp : pc + 1 = pc') : St cc nL pc lv st pc' lv (.ref x :: st) := by
  subst hp
  exact fun p l e R s m args below meth c H locs cells slots Q ls hx hb hl k => lv_aload_n hx hb d hq (lv_at hl n hn) (k ls hl)
theorem i_ret (I : Isi l D cA cc nL own R K mc ms A Y) (hk : K w) (d : decode cc pc = .ok (.return_, 1)) : Y w mc ms pc lv [] := by
  obtain ⟨p, e, s, m, args, below, meth, c, Q, H0, hx, hb, hml, hown, hts, hK, hN, hin, hA, rfl, hret⟩ := I
  exact hret w pc lv hk d
theorem i_obj (I : Isi l D cA cc nL own R K mc ms A Y) {index : Nat} (hml0 : Cond.methodLink own index objectInit ∈ gd) (hfr : 1 ≤ R.frames) (hlo : (rest.map fun v => v.category).sum + 12 ≤ R.locals) (d : decode cc pc = .ok (.invokespecial index, 3)) (hp : pc + 3 = pc') (k : Y w cl sl pc' lv rest) : Y w cl sl pc lv (.ref a :: rest) := by
  subst hp
  obtain ⟨p, e, s, m, args, below, meth, c, Q, H0, hx, hb, hml, hown, hts, hK, hN, hin, hA, rfl, hret⟩ := I
  intro H locs ls hP hD hS hl
  have hco : (Cond.code objectInit ⟨#[0xb1]⟩ 1 none).before args s = true := by
    have h1 := hts _ co_Object
    have e1 : object_method_1_code = ⟨#[0xb1]⟩ := by decide +kernel
    rw [e1] at h1
    exact h1
  exact W.objInit hx hb hown (hts _ hml0) (hts _ im_Object) hco rfl (hl.1.trans hml.symm) rfl d hfr (by show 2 * 0 + _ + 12 ≤ _; omega) (k H locs ls hP hD hS hl)
/-- a final field, another one -/
def PQ (own : String) (index ci k : Nat) (ty : FieldType) (fin : Bool) : Prop := ∃ (C : String) (T : u_T) (N : Nat) (ty0 : Nat → FieldType), CL[ci]? = some (C, T, N) ∧ (∀ w ∈ u_ws C T N, w ∈ gd) ∧ k < N ∧ Cond.fieldLink own index C (T k).2.1 (T k).2.2.1 ∈ gd ∧ (T k).1 = C ∧
  (∀ k, k < N → parseFieldDescriptor (T k).2.2.1 = some (ty0 k)) ∧ (∀ a, a < N → ∀ b, b < N → a ≠ b → (T a).2.1 ≠ (T b).2.1) ∧ (T k).2.2.2 = fin ∧ parseFieldDescriptor (T k).2.2.1 = some ty ∧ C = own
theorem i_put (I : Isi l D cA cc nL own R K mc ms A Y) {index ci j : Nat} {ty : FieldType} {fin : Bool} {v : Value} {fs fs' : List Value} (g : PQ own index ci j ty fin) (hfs : fs.set j v = fs') (hj : j < fs.length) (hn : narrow ty v = v) (hfit : fits ty v = true) (d : decode cc pc = .ok (.putfield index, 3)) (hp : pc + 3 = pc') (k : Y ((q0, .inr (ci, fs')) :: s) cl sl pc' lv rest) : Y ((q0, .inr (ci, fs)) :: s) cl sl pc lv (v :: .ref q0 :: rest) := by
  subst hp
  subst hfs
  obtain ⟨p, e, s', m, args, below, meth, c, Q, H0, hx, hb, hml, hown, hts, hK, hN, hin, hA, rfl, hret⟩ := I
  intro H locs ls hP hD hS hl
  obtain ⟨C, TT, N, ty0, h1, h2, h3, h4, h5, h6, h7, h8, h9, h10⟩ := g
  cases fin with
  | false => exact va_put hx hb hts h2 ty0 h6 h7 hown hK hP hD hS 0 rfl h1 j h3 (hts _ h4) (fun x hx => by rw [h5] at hx; exact hx) h8 h9 hn hfit hj d (fun H1 locs1 hP1 hD1 hS1 => k H1 locs1 ls hP1 hD1 hS1 hl)
  | true => exact va_putF hx hb hts h2 ty0 h6 h7 hown hK hP hD hS 0 rfl h1 j h3 (hts _ h4) (fun x hx => by rw [h5] at hx; exact hx) h8 hin (h5.trans h10) h9 hn hfit hj d (fun H1 locs1 hP1 hD1 hS1 => k H1 locs1 ls hP1 hD1 hS1 hl)
theorem tys_fn {s : State} {t : Nat} {ty : FieldType} {c : ClassId} (hK : va_K D CL (tysOf cA) s) (ht : (tysOf cA)[t]? = some (cA t, ty)) (hc : s.vm.findClass ("[" ++ ty.toString) = some c) : cA t = c := by
  have h := (hK.2 t _ ht).2
  cases ty with
  | object C =>
    obtain ⟨_, _, _, _, _, h4⟩ := h
    exact Option.some.inj (h4.symm.trans hc)
  | _ => exact Option.some.inj (Eq.trans (Eq.symm h) hc)
def zarr (t n : Nat) : vp_A := (n, if t = 1 then .inr (.inl (fun _ => Int64.ofInt 0)) else .inl (fun _ => Int32.ofInt 0))
theorem i_newa (I : Isi l D cA cc nL own R K mc ms A Y) {atype : ArrayType} {t n : Nat} {x : Int} {ty : FieldType} (hwd : Cond.arrayClass ty ∈ gd) (hty : newarray.typeOf atype = ty) (ht : (tysOf cA)[t]? = some (cA t, ty)) (hz : ∀ c : ClassId, vp_cell c (zarr t n) = arrV c n (fun _ => defaultValue ty)) (hx0 : inR x) (hn : (n : Int) = x) (hby : n * componentBytes ty ≤ 536870912) (hcl : cl + 1 ≤ R.cells) (hsl : sl + n ≤ R.slots) (d : decode cc pc = .ok (.newarray atype, 2)) (hp : pc + 2 = pc') {cl' sl' : Nat} (e1 : cl + 1 = cl') (e2 : sl + n = sl')
    (k : ∀ q : Nat, Y (w ++ [(q, .inl (cA t, zarr t n))]) cl' sl' pc' lv (.ref q :: rest)) : Y w cl sl pc lv (vI x :: rest) := by
  subst hp
  subst e1
  subst e2
  obtain ⟨p, e, s', m, args, below, meth, c, Q, H0, hx, hb, hml, hown, hts, hK, hN, hin, hA, rfl, hret⟩ := I
  intro H locs ls hP hD hS hl
  refine va_newa hx hb (by rw [hty]; exact hts _ hwd) hty hK hP hD hS hA hz (fun q => by
    have := (lt32 hx0 (inR_c (x := 0) rfl)).mp q
    omega) (by rw [cl_of hx0]; omega) hby hcl hsl d (fun q cA' H1 hK1 hP1 hD1 hS1 => ?_)
  have hc : cA t = cA' := by
    have h1 := hK1.2 6 (cA', ty) rfl
    have h2 := h1.2
    cases ty with
    | object C =>
      obtain ⟨_, _, _, _, _, h4⟩ := h2
      exact tys_fn hK ht h4
    | _ => exact tys_fn hK ht h2
  subst hc
  exact k q H1 locs ls hP1 hD1 hS1 hl
theorem i_anew (I : Isi l D cA cc nL own R K mc ms A Y) {index n : Nat} {x : Int} (hcln : Cond.classLink own index "CopyBench$Tape" ∈ gd) (hx0 : inR x) (hn : (n : Int) = x) (hby : n * 4 ≤ 536870912) (hcl : cl + 1 ≤ R.cells) (hsl : sl + n ≤ R.slots) (d : decode cc pc = .ok (.anewarray index, 3)) (hp : pc + 3 = pc') {cl' sl' : Nat} (e1 : cl + 1 = cl') (e2 : sl + n = sl')
    (k : ∀ q : Nat, Y (w ++ [(q, .inl (cA 4, n, .inr (.inr (.inr (.inr (fun _ => none))))))]) cl' sl' pc' lv (.ref q :: rest)) : Y w cl sl pc lv (vI x :: rest) := by
  subst hp
  subst e1
  subst e2
  obtain ⟨p, e, s', m, args, below, meth, c, Q, H0, hx, hb, hml, hown, hts, hK, hN, hin, hA, rfl, hret⟩ := I
  intro H locs ls hP hD hS hl
  refine va_newq hx hb hown (hts _ hcln) hN.2.1 hK hP hD hS hA (fun q => by
    have := (lt32 hx0 (inR_c (x := 0) rfl)).mp q
    omega) (by rw [cl_of hx0]; omega) hby hcl hsl d (fun q cA' H1 hK1 hP1 hD1 hS1 => ?_)
  have hc : cA 4 = cA' := by
    have h1 := hK1.2 6 (cA', .object "CopyBench$Tape") rfl
    obtain ⟨_, _, _, _, _, h4⟩ := h1.2
    exact tys_fn hK (t := 4) rfl h4
  subst hc
  exact k q H1 locs ls hP1 hD1 hS1 hl
theorem i_new (I : Isi l D cA cc nL own R K mc ms A Y) {index ci N : Nat} {C : String} {T : u_T} (ty : Nat → FieldType) (hc : CL[ci]? = some (C, T, N)) (hin : ∀ w ∈ u_ws C T N, w ∈ gd) (hty : ∀ k, k < N → parseFieldDescriptor (T k).2.2.1 = some (ty k)) (hcln : Cond.classLink own index C ∈ gd) (hinst : Cond.instantiable C N ∈ gd) (hini : Cond.initialized C ∈ gd) (hfs : ∀ j, j < N → defaultValue (ty j) = vp_V (nul ci) j) (hcl : cl + 1 ≤ R.cells) (hsl : sl + N ≤ R.slots) (d : decode cc pc = .ok (.new index, 3)) (hp : pc + 3 = pc') {cl' sl' : Nat} (e1 : cl + 1 = cl') (e2 : sl + N = sl')
    (k : ∀ q : Nat, Y (w ++ [(q, .inr (ci, nul ci))]) cl' sl' pc' lv (.ref q :: rest)) : Y w cl sl pc lv rest := by
  subst hp
  subst e1
  subst e2
  obtain ⟨p, e, s', m, args, below, meth, c, Q, H0, hx, hb, hml, hown, hts, hK, hN, hin', hA, rfl, hret⟩ := I
  intro H locs ls hP hD hS hl
  exact va_new hx hb hts hin ty hty hown (hts _ hcln) (hts _ hinst) (hts _ hini) hK hP hD hS hA hc hfs hcl hsl d (fun q H1 hP1 hD1 hS1 => k q H1 locs ls hP1 hD1 hS1 hl)
theorem i_conv (e : w = w') (k : Y w' cl sl pc lv st) : Y w cl sl pc lv st := by
  subst e
  exact k
/-- what a constructor leaves, put behind the rest -/
theorem seg_join {r w1 : va_W} {q ci sz : Nat} {H H1 : Heap} {x : va_E} (hP : va_P D CL (r ++ [(q, x)]) H) (hD : va_D A (r ++ [(q, x)])) (hk1 : ∀ a : Nat, a < H.size → ¬ va_A [(q, x)] H.size a → H1[a]? = H[a]?) (hA : ∀ a, H.size ≤ a → A a) (hP1 : va_P D CL w1 H1) (hD1 : va_D (va_A [(q, x)] H.size) w1) : va_P D CL (r ++ w1) H1 ∧ va_D A (r ++ w1) := by
  have hq : ∀ (i : Nat) (p : Nat × va_E), r[i]? = some p → p.1 < H.size ∧ p.1 ≠ q := by
    intro i p hi
    have hl : i < r.length := (List.getElem?_eq_some_iff.mp hi).1
    have h1 : (r ++ [(q, x)])[i]? = some p := by rw [List.getElem?_append_left hl]; exact hi
    have h2 : (r ++ [(q, x)])[r.length]? = some (q, x) := by simp
    refine ⟨(hP i _ h1).lt, fun e => ?_⟩
    have := hD.1 i r.length p (q, x) h1 h2 e
    omega
  have hn : ∀ (i : Nat) (p : Nat × va_E), r[i]? = some p → ¬ va_A [(q, x)] H.size p.1 := by
    intro i p hi hh
    obtain ⟨h1, h2⟩ := hq i p hi
    rcases hh with ⟨k, e, hk⟩ | hh
    · have hk0 : k < 1 := (List.getElem?_eq_some_iff.mp hk).1
      rw [show k = 0 by omega] at hk
      cases hk
      exact h2 rfl
    · omega
  have hPr : va_P D CL r H := fun k p hk => hP k p (by rw [List.getElem?_append_left (List.getElem?_eq_some_iff.mp hk).1]; exact hk)
  have hDr : va_D A r := ⟨fun i j p p' hi hj e => hD.1 i j p p' (by rw [List.getElem?_append_left (List.getElem?_eq_some_iff.mp hi).1]; exact hi) (by rw [List.getElem?_append_left (List.getElem?_eq_some_iff.mp hj).1]; exact hj) e, fun k p hk => hD.2 k p (by rw [List.getElem?_append_left (List.getElem?_eq_some_iff.mp hk).1]; exact hk)⟩
  have hAq : A q := hD.2 r.length (q, x) (by simp)
  have hAw : ∀ (k : Nat) (p : Nat × va_E), w1[k]? = some p → A p.1 := by
    intro k p hk
    rcases hD1.2 k p hk with ⟨k', e, hk'⟩ | hh
    · have hk0 : k' < 1 := (List.getElem?_eq_some_iff.mp hk').1
      rw [show k' = 0 by omega] at hk'
      have e1 : p.1 = q := (congrArg Prod.fst (Option.some.inj hk')).symm
      rw [e1]
      exact hAq
    · exact hA _ hh
  refine ⟨va_P.app (hPr.kept (fun k p hk => hk1 _ (hq k p hk).1 (hn k p hk))) hP1, va_D.app hDr ⟨hD1.1, hAw⟩ (fun i j p p' hi hj e => ?_)⟩
  exact hn i p hi (by rw [e]; exact hD1.2 j p' hj)
theorem iblind {ci q sz : Nat} : FrameBlind (va_Pc [.ref q] (IniPc D cA q ci sz)) := by
  intro a U g mk ⟨x0, x1, x2, x3, x4, x5⟩
  exact ⟨x0, x1, x2, va_K.moved (u := U) (U := U.calling g mk a) (Vm.Alike.refl U.vm) x3, x4, NW.same (u := U) (U := U.calling g mk a) rfl x5⟩
theorem i_fin {p : Program} {e : Env} {s' : State} {m : MethodId} {args : Array Value} {below : List Frame} {meth : Method} {c : Code} {Q : State → Prop} {H0 H : Heap} {locs : List Loc} {ls : Array Slot} {τ : TP} {h1 : HP} {r : va_W} {q ci mc1 ms1 : Nat} {a1 : Array Value}
    (hr : va_Run p l e R s' m args below meth c H locs cl sl mc1 ms1 (F0 m pc ls st) rest (va_Qv (fun ad : Nat → Nat => ad 0 = q) (fun ad t => va_P D CL (ws τ ad cA h1) t.heap ∧ va_K D CL (tysOf cA) t ∧ va_D (IniA q ci H.size) (ws τ ad cA h1) ∧ Jvm.Pilot.@@N@@.hr τ h1) (IniA q ci H.size) a1) (IniA q ci H.size))
    (hP : va_P D CL (r ++ [(q, .inr (ci, nul ci))]) H) (hD : va_D A (r ++ [(q, .inr (ci, nul ci))])) (hS : va_S A H0 H locs) (hA : ∀ q, H0.size ≤ q → A q)
    (k : ∀ (ad : Nat → Nat) (H1 : Heap) (locs1 : List Loc), ad 0 = q → Jvm.Pilot.@@N@@.hr τ h1 → va_P D CL (r ++ ws τ ad cA h1) H1 → va_D A (r ++ ws τ ad cA h1) → va_S A H0 H1 locs1 → W p l e R s' m args below meth c H1 locs1 (cl + mc1) (sl + ms1) Q (F0 m (pc + 3) ls rest)) : W p l e R s' m args below meth c H locs cl sl Q (F0 m pc ls st) := by
  have hAq : A q := hD.2 r.length (q, .inr (ci, nul ci)) (by simp)
  have hfr : ∀ x, IniA q ci H.size x → A x := by
    intro x hx
    rcases hx with ⟨k', e, hk'⟩ | hh
    · have hk0 : k' < 1 := (List.getElem?_eq_some_iff.mp hk').1
      rw [show k' = 0 by omega] at hk'
      have e1 : x = q := (congrArg Prod.fst (Option.some.inj hk')).symm
      rw [e1]
      exact hAq
    · exact hA _ (Nat.le_trans hS.1 hh)
  refine va_callv hr hS (fun x _ h => hfr x h) hfr (fun ad t H1 locs1 ht hvm had hB hz1 hk1 hS1 => ?_)
  obtain ⟨hP1, hK1, hD1, hh1⟩ := hB
  rw [ht] at hP1
  obtain ⟨hP2, hD2⟩ := seg_join (ci := ci) (sz := 0) hP hD hk1 (fun x hx => hA _ (Nat.le_trans hS.1 hx)) hP1 hD1
  exact k ad H1 locs1 had hh1 hP2 hD2 hS1
theorem i_call (I : Isi l D cA cc nL own R K mc ms A Y) {y : MethodName} {cc' : ByteArray} {nL' fr lo mc1 ms1 ci index : Nat} {τ : TP} {h1 : HP} (hc : Ini l y cc' nL' fr lo mc1 ms1 ci τ h1) (m1 : Cond.code y cc' nL' none ∈ gd) (m2 : Cond.instanceMethod y ∈ gd) (m3 : Cond.initialized y.cls ∈ gd) (hm : y.name = "<init>" ∧ y.cls ≠ "java/lang/invoke/MethodHandle" ∧ y.cls ≠ "java/lang/invoke/VarHandle" ∧ (parseMethodDescriptor y.desc).map (fun d => d.parameters.length) = some 0)
    (hlk : Cond.methodLink own index y ∈ gd ∨ Cond.methodLinkNest own index y "CopyBench" ∈ nws) (hR : fr + 1 ≤ R.frames ∧ 8 + (nL' + 11) + lo ≤ R.locals) (hcl : cl + mc1 ≤ R.cells) (hsl : sl + ms1 ≤ R.slots) {q : Nat} (hcat : (rest.map fun v => v.category).sum ≤ 8) (d : decode cc pc = .ok (.invokespecial index, 3)) (hp : pc + 3 = pc') {cl' sl' : Nat} (e1 : cl + mc1 = cl') (e2 : sl + ms1 = sl')
    (k : ∀ ad : Nat → Nat, ad 0 = q → hr τ h1 → Y (w ++ ws τ ad cA h1) cl' sl' pc' lv rest) : Y (w ++ [(q, .inr (ci, nul ci))]) cl sl pc lv (.ref q :: rest) := by
  subst hp
  subst e1
  subst e2
  obtain ⟨p, e, s', m, args, below, meth, c, Q, H0, hx, hb, hml', hown, hts, hK, hN, hin', hA, rfl, hret⟩ := I
  intro H locs ls hP hD hS hl
  have hlt : (w ++ [(q, .inr (ci, nul ci))])[w.length]? = some (q, .inr (ci, nul ci)) := by simp
  have hPc : va_P D CL [(q, .inr (ci, nul ci))] H := fun k p hk => by
    have hk0 : k < 1 := (List.getElem?_eq_some_iff.mp hk).1
    rw [show k = 0 by omega] at hk
    cases hk
    exact hP _ _ hlt
  have hDc : va_D (fun _ => True) ([(q, .inr (ci, nul ci))] : va_W) := ⟨fun i j p p' hi hj _ => by
    have h1 : i < 1 := (List.getElem?_eq_some_iff.mp hi).1
    have h2 : j < 1 := (List.getElem?_eq_some_iff.mp hj).1
    omega, fun _ _ _ => trivial⟩
  have hpre : PreS s' H (va_Pc [.ref q] (IniPc D cA q ci H.size)) [.ref q] := ⟨iblind, fun U hU hW => ⟨rfl, by rw [hU], by rw [hU]; exact hPc, va_K.moved hW.alike hK, hDc, NW.warm hW hN⟩⟩
  rcases hlk with hlk | hlk
  · have cb := callB_of (own := own) (index := index) (Ts := gd) (ws' := gd) (y := y) (bytes := cc') (maxL := nL') (ret := none) (rm := rmI fr lo mc1 ms1) (mc := mc1) (ms := ms1) (R := R) (args := args) (s := s') 0 hts (good5 m1) rfl rfl rfl (hts _ m3) (hts _ hlk) hm.2 hR
    have hrun := va_runI (locs := locs) (cells := cl) (slots := sl) (below := below) (meth := meth) (l := l) (e := e) (H := H) (g := F0 m pc ls (.ref q :: rest)) (As := []) (rest := rest) (b := q) ⟨hx, hb, hml', hown, hts⟩ (hc D cA q H.size) ⟨cb, hm.1, hts _ m2⟩ hpre rfl rfl (hl.1.trans rfl) rfl (lv_room hcat) d ⟨hcl, hsl⟩
    exact i_fin hrun hP hD hS hA (fun ad H1 locs1 h0 hh1 hP1 hD1 hS1 => k ad h0 hh1 H1 locs1 ls hP1 hD1 hS1 hl)
  · have cb := va_cnB (own := own) (host := "CopyBench") (index := index) (Ts := gd) (ws' := gd) (y := y) (bytes := cc') (maxL := nL') (ret := none) (rm := rmI fr lo mc1 ms1) (mc := mc1) (ms := ms1) (R := R) (args := args) (s := s') 0 hts (good5 m1) rfl rfl rfl (hN.1 _ hlk) (hts _ m3) hm.2 hR
    have hrun := va_runIN (locs := locs) (cells := cl) (slots := sl) (below := below) (meth := meth) (l := l) (e := e) (H := H) (g := F0 m pc ls (.ref q :: rest)) (As := []) (rest := rest) (b := q) ⟨hx, hb, hml', hown, hts⟩ (hc D cA q H.size) ⟨cb, hm.1, hts _ m2⟩ hpre rfl rfl (hl.1.trans rfl) rfl (lv_room hcat) d ⟨hcl, hsl⟩
    exact i_fin hrun hP hD hS hA (fun ad H1 locs1 h0 hh1 hP1 hD1 hS1 => k ad h0 hh1 H1 locs1 ls hP1 hD1 hS1 hl)
end RowsI
