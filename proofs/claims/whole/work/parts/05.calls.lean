/-! contracts over the pure heap: from args and h the method answers v and leaves h' -/
def AD (τ : TP) (ad : Nat → Nat) : Nat → Prop := fun q => ∃ k : Nat, k < τ.length ∧ q = ad k
def QQ (D : va_G) (cA : Nat → ClassId) (τ : TP) (ad : Nat → Nat) (v : Option Value) (h' : HP) (φ : Prop) : Array Value → State → Outcome → State → Prop := fun _ st oc t =>
  (oc = .returned v ∧ va_P D CL (ws τ ad cA h') t.heap ∧ va_K D CL (tysOf cA) t ∧ hr τ h' ∧ φ) ∧ va_F (AD τ ad) st t
def rm0' (fr lo : Nat) : Room := { frames := fr, cells := 0, slots := 0, locals := lo }
def Ctr (l : Launch) (y : MethodName) (cc : ByteArray) (nL : Nat) (ret : Option FieldType) (fr lo : Nat) (τ : TP) (As : (Nat → Nat) → List Value) (h : HP) (v : Option Value) (h' : HP) (φ : Prop) : Prop :=
  ∀ (D : va_G) (cA : Nat → ClassId) (ad : Nat → Nat), Met l y (.code y cc nL ret :: gd) (rm0' fr lo) (va_Pc (As ad) (fun U => va_P D CL (ws τ ad cA h) U.heap ∧ va_K D CL (tysOf cA) U ∧ va_D (fun _ => True) (ws τ ad cA h))) (QQ D cA τ ad v h' φ) 0 0 (AD τ ad)
theorem wsD {τ : TP} {ad : Nat → Nat} {cA : Nat → ClassId} {h h' : HP} {A B : Nat → Prop} (hD : va_D A (ws τ ad cA h)) (hB : ∀ k : Nat, k < τ.length → B (ad k)) : va_D B (ws τ ad cA h') := by
  have tr : ∀ (k : Nat) (q : Nat × va_E), (ws τ ad cA h')[k]? = some q → ∃ q0 : Nat × va_E, (ws τ ad cA h)[k]? = some q0 ∧ q0.1 = q.1 ∧ q.1 = ad k ∧ k < τ.length := by
    intro k q hq
    unfold ws at hq ⊢
    rw [List.getElem?_mapIdx] at hq ⊢
    cases e : τ[k]? with
    | none => rw [e] at hq; cases hq
    | some kd =>
      rw [e] at hq
      cases hq
      exact ⟨_, rfl, rfl, rfl, (List.getElem?_eq_some_iff.mp e).1⟩
  refine ⟨fun i j p q hi hj e => ?_, fun k q hq => ?_⟩
  · obtain ⟨p0, a1, a2, -, -⟩ := tr i p hi
    obtain ⟨q0, b1, b2, -, -⟩ := tr j q hj
    exact hD.1 i j p0 q0 a1 b1 (by rw [a2, b2, e])
  · obtain ⟨q0, -, -, e, hl⟩ := tr k q hq
    rw [e]
    exact hB k hl
set_option maxHeartbeats 1000000 in
theorem ctr_of {l : Launch} {τ : TP} {y : MethodName} {cc : ByteArray} {nL : Nat} {ret : Option FieldType} {fr lo : Nat} {As : (Nat → Nat) → List Value} {h h' : HP} {v : Option Value} {φ : Prop} (hpl : plainName y.cls = true) (hw : wf τ) (hh : hr τ h) (hlen : ∀ ad, (lg_sl (As ad)).length ≤ nL)
    (body : ∀ (ad : Nat → Nat) (K : Option Value → HP → Prop) (Y : HP → Nat → List (Nat × Value) → List Value → Prop), Isy l τ ad cc nL y.cls (rm0' fr lo) ret K Y → (φ → K v h') → Y h 0 (lv_args 0 (As ad)) []) : Ctr l y cc nL ret fr lo τ As h v h' φ := by
  intro D cA ad
  refine Met.ofW (cc := cc) (maxL := nL) (ret := ret) hpl rfl ?_
  intro p e s m args below meth c s₁ B hml hv
  obtain ⟨rfl, hP, hK, hD⟩ := hv
  have hts0 := atoms_spec (ws := .code y cc nL ret :: gd) B.pre
  have hts : ∀ w ∈ gd, w.before ((As ad).toArray) s = true := fun w hw => hts0 w (List.mem_cons_of_mem _ hw)
  have hown : s.vm.findClass y.cls = some m.cls := findClass_of_methodNamed B.named
  have hlocks := B.notSynchronized
  have hA : ∀ k : Nat, k < τ.length → AD τ ad (ad k) := fun k hk => ⟨k, hk, rfl⟩
  have hQ : ∀ (H : Heap) (locs : List Loc), va_P D CL (ws τ ad cA h') H → va_S (AD τ ad) s.heap H locs → hr τ h' → φ → ∀ t : State, t.heap = H → s.WarmedH t.vm → QQ D cA τ ad v h' φ ((As ad).toArray) s (.returned v) t := by
    intro H locs hP' hS' hh' hφ t ht hW
    exact ⟨⟨rfl, by rw [ht]; exact hP', va_K.moved hW.alike hK, hh', hφ⟩, hS'.F ht⟩
  have I : Isy l τ ad cc nL y.cls (rm0' fr lo) ret (fun v' h'' => v' = v ∧ h'' = h' ∧ φ) (fun h pc lv st => ∀ (H : Heap) (locs : List Loc) (ls : Array Slot), va_P D CL (ws τ ad cA h) H → va_D (AD τ ad) (ws τ ad cA h) → va_S (AD τ ad) s.heap H locs → lv_has ls nL lv → hr τ h → W p l e (rm0' fr lo) s m ((As ad).toArray) below meth c H locs 0 0 (MQ below (QQ D cA τ ad v h' φ) ((As ad).toArray) s 0 0 (AD τ ad)) (F0 m pc ls st)) := by
    refine ⟨p, e, s, m, (As ad).toArray, below, meth, c, 0, 0, _, D, cA, AD τ ad, s.heap, B.exec, B.bytes, hml, hown, hts, hK, hw, hA, Nat.le_refl _, Nat.le_refl _, rfl, ?_⟩
    rintro h2 pc lv v2 ⟨rfl, rfl, hφ⟩ hrv hd H locs ls hP2 hD2 hS2 hl2 hh2
    have hq := hQ H locs hP2 hS2 hh2 hφ
    have hr := B.returns
    cases ret with
    | none =>
      cases hrv
      exact W.vret B.exec B.bytes hr hq hS2.2.2 hd
    | some ty =>
      cases ty with
      | int =>
        obtain ⟨x, rfl⟩ := hrv
        exact W.iret B.exec B.bytes hr hq hS2.2.2 hd
      | boolean =>
        obtain ⟨x, hx, rfl⟩ := hrv
        exact W.zret (ty := .boolean) B.exec B.bytes hr (by rcases hx with rfl | rfl <;> rfl) hq hS2.2.2 hd
      | long =>
        obtain ⟨x, rfl⟩ := hrv
        exact W.lret B.exec B.bytes hr hq hS2.2.2 hd
      | _ => exact hrv.elim
  have K := body ad _ _ I (fun q => ⟨rfl, rfl, q⟩)
  have hl := lv_entry (As ad) (n := nL) (hlen ad)
  rw [lg_entry_eq]
  exact K s.heap [] _ hP (wsD hD hA) va_S.rf hl hh
section Calls5
variable {l : Launch} {τ : TP} {ad : Nat → Nat} {cc : ByteArray} {nL : Nat} {own : String} {R : Room} {ret : Option FieldType} {K : Option Value → HP → Prop} {Y : HP → Nat → List (Nat × Value) → List Value → Prop}
variable {X : Type} {T : Option X} {G : X → Prop} {h h2 : HP} {pc pc' : Nat} {lv : List (Nat × Value)} {st rest : List Value} {o : Int}
theorem Y_run {p : Program} {e : Env} {s : State} {m : MethodId} {args : Array Value} {below : List Frame} {meth : Method} {c : Code} {H : Heap} {locs : List Loc} {cells slots : Nat} {Q : State → Prop} {D : va_G} {cA : Nat → ClassId} {A : Nat → Prop} {H0 : Heap} {ls : Array Slot} {a : Array Value} {v : Option Value} {φ : Prop}
    (hr : va_Run p l e R s m args below meth c H locs cells slots 0 0 (F0 m pc ls st) rest (QQ D cA τ ad v h2 φ a) (AD τ ad)) (hD : va_D A (ws τ ad cA h)) (hS : va_S A H0 H locs) (hA : ∀ k : Nat, k < τ.length → A (ad k))
    (k : ∀ (H1 : Heap) (locs1 : List Loc), va_P D CL (ws τ ad cA h2) H1 → va_D A (ws τ ad cA h2) → va_S A H0 H1 locs1 → Jvm.Pilot.@@N@@.hr τ h2 → φ → W p l e R s m args below meth c H1 locs1 cells slots Q (F0 m (pc + 3) ls (v.toList ++ rest))) : W p l e R s m args below meth c H locs cells slots Q (F0 m pc ls st) := by
  intro T hT X
  obtain ⟨v', st₀, t, T', L, h0, X', hL, e1, e2, ⟨⟨hv, hP1, hK1, hh1, hφ⟩, hz, hk⟩, stp⟩ := hr T hT X
  cases hv
  rw [h0] at hz hk
  have hAA : ∀ q, AD τ ad q → A q := by
    rintro q ⟨k, hk, rfl⟩
    exact hA k hk
  obtain ⟨t2, a1, b1⟩ := k T'.heap (locs ++ L) (by rw [e1]; exact hP1) (wsD hD hA)
    ⟨Nat.le_trans hS.1 (by rw [e1]; exact hz), fun q h1 h2 => by rw [e1, hk q (Nat.lt_of_lt_of_le h1 hS.1) (fun z => h2 (hAA q z))]; exact hS.2.1 q h1 h2, fun q hq => by
      rcases List.mem_append.mp hq with h | h
      · exact hS.2.2 q h
      · exact hAA _ (hL q h)⟩ hh1 hφ T' rfl X'
  exact ⟨t2, stp t2 a1, b1⟩
theorem blind5 {D : va_G} {cA : Nat → ClassId} {av : List Value} : FrameBlind (va_Pc av (fun U => va_P D CL (ws τ ad cA h) U.heap ∧ va_K D CL (tysOf cA) U ∧ va_D (fun _ => True) (ws τ ad cA h))) := by
  intro a U g mk q
  obtain ⟨q0, qP, qK, qD⟩ := q
  exact ⟨q0, qP, va_K.moved (u := U) (U := U.calling g mk a) (Vm.Alike.refl U.vm) qK, qD⟩
/-- what the tables say of a method that is called -/
def MV (y : MethodName) (cc : ByteArray) (nL : Nat) (ret : Option FieldType) (n : Nat) (ci : Nat) : Prop := Cond.code y cc nL ret ∈ gd ∧ Cond.instanceMethod y ∈ gd ∧ Cond.selects y.cls y y ∈ gd ∧ Cond.initialized y.cls ∈ gd ∧ (y.cls ≠ "java/lang/invoke/MethodHandle" ∧ y.cls ≠ "java/lang/invoke/VarHandle" ∧ (parseMethodDescriptor y.desc).map (fun d => d.parameters.length) = some n) ∧ (CL[ci]?).map (fun q => q.1) = some y.cls
def MS (y : MethodName) (cc : ByteArray) (nL : Nat) (ret : Option FieldType) (n : Nat) : Prop := Cond.code y cc nL ret ∈ gd ∧ Cond.static y ∈ gd ∧ Cond.initialized y.cls ∈ gd ∧ (y.cls ≠ "java/lang/invoke/MethodHandle" ∧ y.cls ≠ "java/lang/invoke/VarHandle" ∧ (parseMethodDescriptor y.desc).map (fun d => d.parameters.length) = some n)
theorem good5 {y : MethodName} {cc : ByteArray} {nL : Nat} {ret : Option FieldType} (h : Cond.code y cc nL ret ∈ gd) : GoodIn gd (.code y cc nL ret :: gd) := gd_good (fun w hw => by
  rcases List.mem_cons.mp hw with rfl | hw
  · exact h
  · exact hw)
theorem z_callV (I : Isy l τ ad cc nL own R ret K Y) {y : MethodName} {cc' : ByteArray} {nL' : Nat} {ret' : Option FieldType} {fr lo n index ci : Nat} {v : Option Value} {φ : Prop} (mv : MV y cc' nL' ret' n ci) (hml : Cond.methodLink own index y ∈ gd) (As : (Nat → Nat) → List Value) (hR : fr + 1 ≤ R.frames ∧ 8 + (nL' + 11) + lo ≤ R.locals) (ho : ok τ (4, ci) o)
    (hc : hr τ h → Ctr l y cc' nL' ret' fr lo τ (fun ad => vR ad o :: As ad) h v h2 φ) (hn : (As ad).length = n) (hst : st = (As ad).reverse ++ vR ad o :: rest) (hcat : (rest.map fun v => v.category).sum ≤ 8) (d : decode cc pc = .ok (.invokevirtual index, 3)) (hp : pc + 3 = pc')
    (k : φ → Z Y T G h2 pc' lv (v.toList ++ rest)) : Z Y T G h pc lv st := by
  subst hp
  obtain ⟨p, e, s, m, args, below, meth, c, cells, slots, Q, D, cA, A, H0, hx, hb, hml', hown, hts, hK, hw, hA, hcl, hsl, rfl, hret⟩ := I
  intro x hT hG H locs ls hP hD hS hl hh
  obtain ⟨m1, m2, m3, m4, m5, m6⟩ := mv
  have cb := callB_of (own := own) (index := index) (Ts := gd) (ws' := gd) (y := y) (bytes := cc') (maxL := nL') (ret := ret') (rm := rm0' fr lo) (mc := 0) (ms := 0) (R := R) (args := args) (s := s) n hts (good5 m1) rfl rfl rfl (hts _ m4) (hts _ hml) m5 hR
  obtain ⟨q6, hq6, e6⟩ : ∃ q : vw_C, CL[ci]? = some q ∧ q.1 = y.cls := by
    cases e : CL[ci]? with
    | none => rw [e] at m6; cases m6
    | some q => rw [e] at m6; exact ⟨q, rfl, Option.some.inj m6⟩
  have hrecv := va_recv hK hP hq6 (ws_get ho.2)
  rw [e6] at hrecv
  have hrun := va_runV (locs := locs) (cells := cells) (slots := slots) (below := below) (meth := meth) (l := l) (e := e) (H := H) (g := F0 m pc ls st) (As := As ad) (rest := rest) (b := ad o.toNat) ⟨hx, hb, hml', hown, hts⟩ (hc hh D cA ad) ⟨cb, hts _ m2, hts _ m3⟩
    ⟨blind5, hrecv, fun U hU hW => ⟨rfl, by rw [hU]; exact hP, va_K.moved hW.alike hK, hD.weaken (fun _ _ _ _ => trivial)⟩⟩ rfl hn (hl.1.trans rfl) hst (lv_room hcat) d ⟨by show cells + 0 ≤ _; exact hcl, by show slots + 0 ≤ _; exact hsl⟩
  exact Y_run hrun hD hS hA (fun H1 locs1 hP1 hD1 hS1 hh1 hφ => k hφ x hT hG H1 locs1 ls hP1 hD1 hS1 hl hh1)
theorem z_callS (I : Isy l τ ad cc nL own R ret K Y) {y : MethodName} {cc' : ByteArray} {nL' : Nat} {ret' : Option FieldType} {fr lo n index : Nat} {v : Option Value} {φ : Prop} (mv : MS y cc' nL' ret' n) (hml : Cond.methodLink own index y ∈ gd) (As : (Nat → Nat) → List Value) (hR : fr + 1 ≤ R.frames ∧ 8 + (nL' + 11) + lo ≤ R.locals)
    (hc : hr τ h → Ctr l y cc' nL' ret' fr lo τ As h v h2 φ) (hn : (As ad).length = n) (hst : st = (As ad).reverse ++ rest) (hcat : (rest.map fun v => v.category).sum ≤ 8) (d : decode cc pc = .ok (.invokestatic index, 3)) (hp : pc + 3 = pc')
    (k : φ → Z Y T G h2 pc' lv (v.toList ++ rest)) : Z Y T G h pc lv st := by
  subst hp
  obtain ⟨p, e, s, m, args, below, meth, c, cells, slots, Q, D, cA, A, H0, hx, hb, hml', hown, hts, hK, hw, hA, hcl, hsl, rfl, hret⟩ := I
  intro x hT hG H locs ls hP hD hS hl hh
  obtain ⟨m1, m2, m4, m5⟩ := mv
  have cb := callB_of (own := own) (index := index) (Ts := gd) (ws' := gd) (y := y) (bytes := cc') (maxL := nL') (ret := ret') (rm := rm0' fr lo) (mc := 0) (ms := 0) (R := R) (args := args) (s := s) n hts (good5 m1) rfl rfl rfl (hts _ m4) (hts _ hml) m5 hR
  have hrun := va_runS (locs := locs) (cells := cells) (slots := slots) (below := below) (meth := meth) (l := l) (e := e) (H := H) (g := F0 m pc ls st) (As := As ad) (rest := rest) ⟨hx, hb, hml', hown, hts⟩ (hc hh D cA ad) ⟨cb, hts _ m2⟩
    ⟨blind5, fun U hU hW => ⟨rfl, by rw [hU]; exact hP, va_K.moved hW.alike hK, hD.weaken (fun _ _ _ _ => trivial)⟩⟩ rfl hn (hl.1.trans rfl) hst (lv_room hcat) d ⟨by show cells + 0 ≤ _; exact hcl, by show slots + 0 ≤ _; exact hsl⟩
  exact Y_run hrun hD hS hA (fun H1 locs1 hP1 hD1 hS1 hh1 hφ => k hφ x hT hG H1 locs1 ls hP1 hD1 hS1 hl hh1)
/-- the trees' words -/
def b1 {A X : Type} (F : Option A) (k : A → Option X) : Option X := match F with
  | none => none
  | some a => k a
def b2 {A B X : Type} (F : Option (A × B)) (k : A → B → Option X) : Option X := match F with
  | none => none
  | some (a, b) => k a b
theorem z_b1 {A : Type} {F : Option A} {k : A → Option X} (q : ∀ a, F = some a → Z Y (k a) G h pc lv st) : Z Y (b1 F k) G h pc lv st := by
  intro x hT hG
  cases hF : F with
  | none => rw [hF] at hT; cases hT
  | some a => rw [hF] at hT; exact q a hF x hT hG
theorem z_b2 {A B : Type} {F : Option (A × B)} {k : A → B → Option X} (q : ∀ a b, F = some (a, b) → Z Y (k a b) G h pc lv st) : Z Y (b2 F k) G h pc lv st := by
  intro x hT hG
  cases hF : F with
  | none => rw [hF] at hT; cases hT
  | some ab => obtain ⟨a, b⟩ := ab; rw [hF] at hT; exact q a b hF x hT hG
def loopO {S X : Type} (f : S → Option (S ⊕ X)) : Nat → S → Option X
  | 0, _ => none
  | n + 1, s => match f s with
    | none => none
    | some (.inl s') => loopO f n s'
    | some (.inr x) => some x
def FUEL : Nat := 1000000
theorem z_loop {S : Type} {f : S → Option (S ⊕ X)} {hO : S → HP} {lO : S → List (Nat × Value)} {Φ : S → Prop}
    (body : ∀ (G' : S ⊕ X → Prop), (∀ s', G' (.inl s') → Φ s' → Y (hO s') pc (lO s') []) → (∀ x, G' (.inr x) → G x) → ∀ s, Φ s → Z Y (f s) G' (hO s) pc (lO s) []) (n : Nat) : ∀ s, Φ s → Z Y (loopO f n s) G (hO s) pc (lO s) [] := by
  induction n with
  | zero => intro s _ x hT; cases hT
  | succ n ih =>
    intro s hs x hT hG
    have hT' := hT
    rw [loopO] at hT'
    cases hf : f s with
    | none => rw [hf] at hT'; cases hT'
    | some u =>
      rw [hf] at hT'
      refine body (fun w => match w with
        | .inl s' => loopO f n s' = some x
        | .inr y => y = x) (fun s' h1 h2 => ih s' h2 x h1 hG) (fun y hy => by
          have : y = x := hy
          rw [this]
          exact hG) s hs u hf ?_
      cases u with
      | inl s' => exact hT'
      | inr y => exact Option.some.inj hT'
theorem z_in {S : Type} {G' : S ⊕ X → Prop} {hO : S → HP} {lO : S → List (Nat × Value)} {Φ : S → Prop} {s : S} (hin : ∀ s', G' (.inl s') → Φ s' → Y (hO s') pc (lO s') []) (hs : Φ s) (e1 : hO s = h) (e2 : lO s = lv) : Z Y (some (.inl s)) G' h pc lv [] := by
  intro x hT hG
  cases hT
  subst e1
  subst e2
  exact hin s hG hs
theorem z_map {A : Type} {G' : A → Prop} {g : A → X} (T : Option A) (h0 : ∀ x, G (g x) → G' x) (k : Z Y T G' h pc lv st) : Z Y (b1 T (fun x => some (g x))) G h pc lv st := by
  intro x hT hG
  cases hF : T with
  | none => rw [hF] at hT; cases hT
  | some a =>
    rw [hF] at hT
    have e : g a = x := Option.some.inj hT
    exact k a hF (h0 a (by rw [e]; exact hG))
theorem z_let {A : Type} {a : A} {k : A → Option X} (q : ∀ b, b = a → Z Y (k b) G h pc lv st) : Z Y (k a) G h pc lv st := q a rfl
end Calls5
