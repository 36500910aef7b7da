/-! THE CLAIM OUT OF ONE WALK OF THE LAW'S BODY. Your part is whole_start (and what it stands on); all else here is the same for every law, but numbers. -/
def lw_P (b : Addr) (xs : List Int32) (args : Array Value) (s : State) : Prop := args = #[.ref b] ∧ s.IntsAt b xs ∧ xs.length ≤ 3072 ∧ (Jvm.Cond.and given_1 narrow_1).before args s = true
def lw_Q (_ : Array Value) (s : State) (o : Outcome) (t : State) : Prop := o = .returned (some (.int 1)) ∧ Framed s o t [] 600000 7302250
def lw_Z (below : List Frame) (a : Array Value) (s : State) : State → Prop := fun t => ∃ o, t.status = .running ∧ Ended t below o ∧ lw_Q a s o t
/-- the law's own end, with 1 on the stack, nothing written that was there before, its room as the claim has it -/
theorem lw_ret {p : Program} {l : Launch} {e : Env} {s : State} {m : MethodId} {below : List Frame} {meth : Method} {c : Code} {b : Nat} (hx : p.tables.exec = Jvm.exec) (hb : c.code = code) (hr : meth.sig.returnType = ret) (hlocks : meth.locks = false) {pc : Nat} {H : Heap} {ls : Array Slot} (hdg : decode code pc = .ok (.ireturn, 1)) : W p l e room_1 s m #[Value.ref b] below meth c H [] 600000 7302250 (lw_Z below #[Value.ref b] s) (F0 m pc ls [.int 1]) := by
  intro T hT X
  obtain ⟨fs, hret, hrun, hended, hW, hframe⟩ := X.leave (v := some (.int 1)) (hlocks := hlocks) (fun h => by rw [hr] at h; cases h)
  have hmeth' : T.vm.method? m = some meth := X.method'
  refine ⟨T.setFrames fs, ?_, .returned (some (.int 1)), hrun, hended, rfl, ⟨_, rfl⟩, hW, hframe⟩
  jvm_step X.here [X.here.top, hx, hb, hdg, hmeth', hr, ret, narrow_b1]
  (try refine ⟨rfl, ?_⟩); (try refine ⟨rfl, ?_⟩)
  first | (intro acts; rw [hret _ acts rfl rfl rfl]) | rw [hret _ _ rfl rfl rfl]
  exact Steps.refl _
/-- what holds at the law's entry: the machine, the code, the tables' words (any of lw_tbl by 'hts w (by decide +kernel)'), the script of L ints xs at the cell b, what the Statement gives of the start (any of its parts by flat_of_before) -/
def lw_At (p : Program) (s : State) (m : MethodId) (meth : Method) (c : Code) (b L : Nat) (xs : Nat → Int32) : Prop :=
  p.tables.exec = Jvm.exec ∧ c.code = code ∧ meth.sig.returnType = ret ∧ c.maxLocals = 4 ∧ s.vm.findClass R_law = some m.cls ∧ (∀ w ∈ lw_tbl, w.before #[Value.ref b] s = true) ∧ va_X b L xs s s.heap ∧ b < s.heap.size ∧ meth.locks = false ∧ (Jvm.Cond.and given_1 narrow_1).before #[Value.ref b] s = true

/-! the whole world: CopyBench at 0, the model at 126 -/
def lay_F : TP := lay_Cb ++ lay_Md
theorem wf_F : wf lay_F := wf_of (by decide +kernel)
theorem lay_Cb_len : lay_Cb.length = 126 := by decide +kernel
theorem wf_Cb : wf lay_Cb := wf_of (by decide +kernel)
def h_F (hE hM : HP) : HP := fun p j => if p < 126 then h_Cb hE p j else hM (p - 126) j
theorem hF_1 (hE hM : HP) (j : Nat) (i : Int) (hj : j < lay_Cb.length) : h_F hE hM ((0 + j : Nat) : Int) i = h_Cb hE (j : Int) i := by
  rw [lay_Cb_len] at hj
  unfold h_F
  rw [Nat.zero_add, if_pos (by omega)]
theorem hF_2 (hE hM : HP) (j : Nat) (i : Int) (hj : j < lay_Md.length) : h_F hE hM ((126 + j : Nat) : Int) i = hM (j : Int) i := by
  unfold h_F
  rw [if_neg (by omega)]
  exact congrFun (congrArg hM (by omega)) i
theorem lay_F_1 {j : Nat} (hj : j < 126) : lay_F[j]? = lay_Cb[j]? := by
  unfold lay_F
  rw [List.getElem?_append_left (by rw [lay_Cb_len]; exact hj)]
theorem lay_F_2 {j : Nat} : lay_F[126 + j]? = lay_Md[j]? := by
  unfold lay_F
  rw [List.getElem?_append_right (by rw [lay_Cb_len]; omega), lay_Cb_len, Nat.add_sub_cancel_left]
theorem hr_F {hE hM : HP} (hhE : hr lay_Exam hE) (hhM : hr lay_Md hM) : hr lay_F (h_F hE hM) := by
  intro k kd hk
  rcases Nat.lt_or_ge k 126 with h | h
  · rw [lay_F_1 h] at hk
    have := seg_hr (b := 0) (hF_1 hE hM) (hr_Cb hhE) hk
    rwa [Nat.zero_add] at this
  · obtain ⟨j, rfl⟩ : ∃ j, k = 126 + j := ⟨k - 126, by omega⟩
    rw [lay_F_2] at hk
    exact seg_hr (b := 126) (hF_2 hE hM) hhM hk
theorem fin_F {D : va_G} {cA : Nat → ClassId} {A : Nat → Prop} {hE hM : HP} (ad1 ad2 : Nat → Nat) {H : Heap} (hP : va_P D CL (ws lay_Cb ad1 cA (h_Cb hE) ++ ws lay_Md ad2 cA hM) H) (hD : va_D A (ws lay_Cb ad1 cA (h_Cb hE) ++ ws lay_Md ad2 cA hM)) : ∃ ad : Nat → Nat, ad 0 = ad1 0 ∧ ad 126 = ad2 0 ∧ va_P D CL (ws lay_F ad cA (h_F hE hM)) H ∧ va_D A (ws lay_F ad cA (h_F hE hM)) := by
  refine ⟨fun k => if k < 126 then ad1 k else ad2 (k - 126), rfl, rfl, ?_⟩
  have l1 : (ws lay_Cb ad1 cA (h_Cb hE)).length = 126 := by rw [ws_len, lay_Cb_len]
  have a1 : ∀ j, j < lay_Cb.length → (fun k => if k < 126 then ad1 k else ad2 (k - 126)) (0 + j) = ad1 j := fun j hj => by
    rw [lay_Cb_len] at hj
    show (if 0 + j < 126 then ad1 (0 + j) else _) = _
    rw [if_pos (by omega), Nat.zero_add]
  have a2 : ∀ j, j < lay_Md.length → (fun k => if k < 126 then ad1 k else ad2 (k - 126)) (126 + j) = ad2 j := fun j hj => by
    show (if 126 + j < 126 then _ else ad2 (126 + j - 126)) = _
    rw [if_neg (by omega), Nat.add_sub_cancel_left]
  refine w_conv (fun k kd hk => ?_) hP hD
  rcases Nat.lt_or_ge k 126 with h | h
  · rw [lay_F_1 h] at hk
    have h4 : kd.1 ≤ 4 := by
      have h5 : ∀ x ∈ lay_Cb, x.1 ≤ 4 := by decide +kernel
      exact h5 _ (List.mem_of_getElem? hk)
    refine ⟨_, by rw [List.getElem?_append_left (by rw [l1]; exact h)]; rw [show (if k < 126 then ad1 k else ad2 (k - 126)) = ad1 k from if_pos h]; exact ws_get hk, fun q => ?_⟩
    have := seg_at (b := 0) (ad := fun k => if k < 126 then ad1 k else ad2 (k - 126)) wf_Cb a1 (hF_1 hE hM) hk h4 q
    rwa [Nat.zero_add] at this
  · obtain ⟨j, rfl⟩ : ∃ j, k = 126 + j := ⟨k - 126, by omega⟩
    rw [lay_F_2] at hk
    have h4 : kd.1 ≤ 4 := by
      have h5 : ∀ x ∈ lay_Md, x.1 ≤ 4 := by decide +kernel
      exact h5 _ (List.mem_of_getElem? hk)
    have hj : j < lay_Md.length := (List.getElem?_eq_some_iff.mp hk).1
    refine ⟨_, by rw [app_r l1, show (if 126 + j < 126 then ad1 (126 + j) else ad2 (126 + j - 126)) = ad2 j from a2 j hj]; exact ws_get hk, fun q => ?_⟩
    exact seg_at (b := 126) (ad := fun k => if k < 126 then ad1 k else ad2 (k - 126)) wf_Md a2 (hF_2 hE hM) hk h4 q
theorem ok_F0 : ok lay_F (4, 9) 0 := ⟨by decide, (lay_F_1 (by decide)).trans (by decide +kernel)⟩
theorem ok_F126 : ok lay_F (4, 10) 126 := ⟨by decide, (lay_F_2 (j := 0)).trans (by decide +kernel)⟩
/-- WHAT IS LEFT, PURE: the constructors' tails answer, and the law answers 1 on every script -/
def PURE : Prop := ∃ hE hM : HP, m_Exam_tail 0 hi_Exam = some hE ∧ hr lay_Exam hE ∧ m_Md_tail 0 hi_Md = some hM ∧ hr lay_Md hM ∧
  ∀ (xs : Int → Int) (m : Int), 0 ≤ m → m ≤ 3072 → (∀ i, inR (xs i)) → ∃ h1, m_law_from 0 126 xs m (h_F hE hM) = some (1, h1)

set_option maxHeartbeats 4000000 in
set_option maxRecDepth 100000 in
theorem start_of (pure_law : PURE) {p : Program} {e : Env} {s : State} {m : MethodId} {below : List Frame} {meth : Method} {c : Code} (l : Launch) {b L : Nat} {xs : Nat → Int32} (hL : L ≤ 3072) (C0 : lw_At p s m meth c b L xs) : W p l e room_1 s m #[Value.ref b] below meth c s.heap [] 0 0 (lw_Z below #[Value.ref b] s) (entryFrame m ([Value.ref b] : List Value).toArray 4) := by
  obtain ⟨hE, hM, pE, rE, pM, rM, plaw⟩ := pure_law
  obtain ⟨hx, hb, hr', hml, hown, hts0, hX, hbl, hlocks, hgv⟩ := id C0
  have hts : ∀ w ∈ gd, w.before #[Value.ref b] s = true := fun w hw => hts0 w (gd_in hw)
  have hA : ∀ q : Nat, s.heap.size ≤ q → (fun q : Nat => s.heap.size ≤ q) q := fun _ h => h
  have hbA : ¬ (fun q : Nat => s.heap.size ≤ q) b := Nat.not_le.mpr hbl
  have hNW : NW s := by
    refine ⟨fun w hw => ?_, hts0 _ w_arrayOver_1140, hts0 _ w_arrayOver_1030, hts0 _ w_arrayOver_4191⟩
    simp only [nws, List.mem_cons, List.not_mem_nil, or_false] at hw
    rcases hw with rfl | rfl | rfl | rfl | rfl | rfl | rfl | rfl | rfl
    · exact va_Nw.of rfl (hts0 _ mn_Cb_30)
    · exact va_Nw.of rfl (hts0 _ mn_Cb_43)
    · exact va_Nw.of rfl (hts0 _ mn_Cb_50)
    · exact va_Nw.of rfl (hts0 _ mn_Cb_60)
    · exact va_Nw.of rfl (hts0 _ mn_Ranking_34)
    · exact va_Nw.of rfl (hts0 _ mn_Cb_67)
    · exact va_Nw.of rfl (hts0 _ mn_Cb_74)
    · exact va_Nw.of rfl (hts0 _ mn_Cb_81)
    · exact va_Nw.of rfl (hts0 _ mn_Cb_86)
  obtain ⟨c0, iS0, hKn0⟩ := u_known (C := R_Draws) (T := F_Draws) (N := 1) (n := 1) hts i_Draws (hts _ w_instantiable_2028)
  obtain ⟨c1, iS1, hKn1⟩ := u_known (C := R_Exam) (T := F_Exam) (N := 17) (n := 17) hts i_Exam (hts _ w_instantiable_1024)
  obtain ⟨c2, iS2, hKn2⟩ := u_known (C := R_Links) (T := F_Links) (N := 1) (n := 1) hts i_Links (hts _ w_instantiable_1235)
  obtain ⟨c3, iS3, hKn3⟩ := u_known (C := R_Odds) (T := F_Odds) (N := 9) (n := 9) hts i_Odds (hts _ w_instantiable_1142)
  obtain ⟨c4, iS4, hKn4⟩ := u_known (C := R_Ranking) (T := F_Ranking) (N := 8) (n := 8) hts i_Ranking (hts _ w_instantiable_1194)
  obtain ⟨c5, iS5, hKn5⟩ := u_known (C := R_Ratio) (T := F_Ratio) (N := 2) (n := 2) hts i_Ratio (hts _ w_instantiable_1181)
  obtain ⟨c6, iS6, hKn6⟩ := u_known (C := R_Seating) (T := F_Seating) (N := 5) (n := 5) hts i_Seating (hts _ w_instantiable_2006)
  obtain ⟨c7, iS7, hKn7⟩ := u_known (C := R_Tape) (T := F_Tape) (N := 3) (n := 3) hts i_Tape (hts _ w_instantiable_2037)
  obtain ⟨c8, iS8, hKn8⟩ := u_known (C := R_Text) (T := F_Text) (N := 2) (n := 2) hts i_Text (hts _ w_instantiable_1126)
  obtain ⟨c9, iS9, hKn9⟩ := u_known (C := R_Cb) (T := F_Cb) (N := 13) (n := 13) hts i_Cb (hts _ w_instantiable_1016)
  obtain ⟨c10, iS10, hKn10⟩ := u_known (C := R_Md) (T := F_Md) (N := 47) (n := 47) hts i_Md (hts _ w_instantiable_4185)
  obtain ⟨dC, dI, hKc⟩ : ∃ (dC : Nat → ClassId) (dI : Nat → Nat → Nat), ∀ (k : Nat) (q : vw_C), CL[k]? = some q → u_Kn s q.1 q.2.1 q.2.2 (dC k) (dI k) := by
    refine ⟨fun k => [c0, c1, c2, c3, c4, c5, c6, c7, c8, c9, c10].getD k c0, fun k => [iS0, iS1, iS2, iS3, iS4, iS5, iS6, iS7, iS8, iS9, iS10].getD k iS0, ?_⟩
    intro k q hq
    match k, hq with
    | 0, hq => cases hq; exact hKn0
    | 1, hq => cases hq; exact hKn1
    | 2, hq => cases hq; exact hKn2
    | 3, hq => cases hq; exact hKn3
    | 4, hq => cases hq; exact hKn4
    | 5, hq => cases hq; exact hKn5
    | 6, hq => cases hq; exact hKn6
    | 7, hq => cases hq; exact hKn7
    | 8, hq => cases hq; exact hKn8
    | 9, hq => cases hq; exact hKn9
    | 10, hq => cases hq; exact hKn10
    | k + 11, hq => cases hq
  obtain ⟨cA0, kA0, comp0, f0, k0, d0⟩ := Cond.arrayClass_spec (hts _ w_arrayClass_1123)
  obtain ⟨cA1, kA1, comp1, f1, k1, d1⟩ := Cond.arrayClass_spec (hts _ w_arrayClass_1179)
  obtain ⟨cA2, kA2, comp2, f2, k2, d2⟩ := Cond.arrayClass_spec (hts _ w_arrayClass_1124)
  obtain ⟨comp3, cA3, kA3, g3, -, k3, d3, f3⟩ := arrayOverA_spec (hts0 _ w_arrayOver_1030)
  obtain ⟨comp4, cA4, kA4, g4, -, k4, d4, f4⟩ := Cond.arrayOver_spec (hts0 _ w_arrayOver_1140)
  obtain ⟨comp5, cA5, kA5, g5, -, k5, d5, f5⟩ := arrayOverA_spec (hts0 _ w_arrayOver_4191)
  obtain ⟨cA, hcA⟩ : ∃ cA : Nat → ClassId, cA = fun k => [cA0, cA1, cA2, cA3, cA4, cA5].getD k cA0 := ⟨_, rfl⟩
  have hK : va_K (dC, dI) CL (tysOf cA) s := by
    refine ⟨hKc, fun k q hq => ?_⟩
    rw [hcA] at hq
    match k, hq with
    | 0, hq => cases hq; exact ⟨fun n z => ⟨fun k h => (by cases h), kA0, k0, comp0, d0⟩, f0⟩
    | 1, hq => cases hq; exact ⟨fun n z => ⟨fun k h => (by cases h), kA1, k1, comp1, d1⟩, f1⟩
    | 2, hq => cases hq; exact ⟨fun n z => ⟨fun k h => (by cases h), kA2, k2, comp2, d2⟩, f2⟩
    | 3, hq => cases hq; exact ⟨fun n z => ⟨fun k h => (by cases h), kA3, k3, comp3, d3⟩, f3⟩
    | 4, hq => cases hq; exact ⟨fun n z => ⟨fun k h => (by cases h), kA4, k4, comp4, d4⟩, ⟨kA4, comp4, k4, d4, g4, f4⟩⟩
    | 5, hq => cases hq; exact ⟨fun n z => ⟨fun k h => (by cases h), kA5, k5, comp5, d5⟩, f5⟩
    | k + 6, hq => cases hq
  have hS : va_S (fun q : Nat => s.heap.size ≤ q) s.heap s.heap [] := va_S.rf
  have hP : va_P (dC, dI) CL [] s.heap := fun k q h => by simp at h
  have hD : va_D (fun q : Nat => s.heap.size ≤ q) [] := ⟨fun i j p q h => by simp at h, fun k q h => by simp at h⟩
  have hl := lv_entry ([.ref b]) (n := 4) (Nat.le_of_ble_eq_true rfl)
  rw [lg_entry_eq]
  generalize (lg_sl ([.ref b]) ++ List.replicate (4 - (lg_sl ([.ref b])).length) Slot.unset).toArray = ls at hl ⊢
  have hl : lv_has ls 4 [(0, .ref b)] := hl
  refine va_new (ci := 9) (fs := nul 9) (C := R_Cb) (T := F_Cb) (N := 13) hx hb hts i_Cb t_Cb t_Cb_ok hown (hts _ xl_law_7) (hts _ w_instantiable_1016) (hts _ ini_Cb) hK hP hD hS hA rfl (fun j hj => by match j, hj with | 0, _ => rfl | 1, _ => rfl | 2, _ => rfl | 3, _ => rfl | 4, _ => rfl | 5, _ => rfl | 6, _ => rfl | 7, _ => rfl | 8, _ => rfl | 9, _ => rfl | 10, _ => rfl | 11, _ => rfl | 12, _ => rfl | n + 13, hj => exact absurd hj (by omega)) (Nat.le_of_ble_eq_true rfl) (Nat.le_of_ble_eq_true rfl) D_law_0.1.1.1.1 (fun q1 H hP hD hS => ?_)
  refine lv_dup hx hb D_law_0.1.1.1.2 rfl ?_
  have iniPc : ∀ (r : va_W) (q ci : Nat) (H : Heap), va_P (dC, dI) CL (r ++ [(q, .inr (ci, nul ci))]) H → PreS s H (va_Pc [.ref q] (IniPc (dC, dI) cA q ci H.size)) [.ref q] := by
    intro r q ci H hP
    have hlt : (r ++ [(q, (.inr (ci, nul ci) : va_E))])[r.length]? = some (q, .inr (ci, nul ci)) := by simp
    exact ⟨iblind, fun U hU hW => ⟨rfl, by rw [hU], fun k p hk => by
      have hk0 : k < 1 := (List.getElem?_eq_some_iff.mp hk).1
      rw [show k = 0 by omega] at hk
      cases hk
      rw [hU]
      exact hP _ _ hlt, va_K.moved hW.alike hK, ⟨fun i j p p' hi hj _ => by
      have h1 : i < 1 := (List.getElem?_eq_some_iff.mp hi).1
      have h2 : j < 1 := (List.getElem?_eq_some_iff.mp hj).1
      omega, fun _ _ _ => trivial⟩, NW.warm hW hNW⟩⟩
  have cb1 := callB_of (own := "CopyBenchLaw") (index := 9) (Ts := gd) (ws' := gd) (y := y_Cb_init) (bytes := k_Cb_init) (maxL := 2) (ret := none) (rm := rmI 3 66 125 1277) (mc := 125) (ms := 1277) (R := room_1) (args := #[Value.ref b]) (s := s) 0 hts (good5 co_Cb_init) rfl rfl rfl (hts _ ini_Cb) (hts _ ml_law_9) (by decide +kernel) ⟨Nat.le_of_ble_eq_true rfl, Nat.le_of_ble_eq_true rfl⟩
  have hrun1 := va_runI (locs := []) (cells := 0 + 1) (slots := 0 + 13) (below := below) (meth := meth) (l := l) (e := e) (H := H) (g := F0 m (0 + 3 + 1) ls [.ref q1, .ref q1]) (As := []) (rest := [.ref q1]) (b := q1) (nL := 4) ⟨hx, hb, hml, hown, hts⟩ (ini_c_Cb pE rE (dC, dI) cA q1 H.size) ⟨cb1, rfl, hts _ im_Cb_init⟩ (iniPc [] q1 9 H hP) rfl rfl (hl.1.trans rfl) rfl (lv_room (Nat.le_of_ble_eq_true rfl)) D_law_0.1.1.2.1 ⟨Nat.le_of_ble_eq_true rfl, Nat.le_of_ble_eq_true rfl⟩
  refine i_fin (r := []) hrun1 hP hD hS hA (fun ad1 H locs h1 hh1 hP hD hS => ?_)
  rw [List.nil_append] at hP hD
  refine lv_astore_n (lv' := [(1, .ref q1), (0, .ref b)]) hx hb D_law_0.1.1.2.2 rfl hl (by decide) rfl (fun ls hl => ?_)
  refine va_new (ci := 10) (fs := nul 10) (C := R_Md) (T := F_Md) (N := 47) hx hb hts i_Md t_Md t_Md_ok hown (hts _ xl_law_10) (hts _ w_instantiable_4185) (hts _ ini_Md) hK hP hD hS hA rfl (fun j hj => by match j, hj with | 0, _ => rfl | 1, _ => rfl | 2, _ => rfl | 3, _ => rfl | 4, _ => rfl | 5, _ => rfl | 6, _ => rfl | 7, _ => rfl | 8, _ => rfl | 9, _ => rfl | 10, _ => rfl | 11, _ => rfl | 12, _ => rfl | 13, _ => rfl | 14, _ => rfl | 15, _ => rfl | 16, _ => rfl | 17, _ => rfl | 18, _ => rfl | 19, _ => rfl | 20, _ => rfl | 21, _ => rfl | 22, _ => rfl | 23, _ => rfl | 24, _ => rfl | 25, _ => rfl | 26, _ => rfl | 27, _ => rfl | 28, _ => rfl | 29, _ => rfl | 30, _ => rfl | 31, _ => rfl | 32, _ => rfl | 33, _ => rfl | 34, _ => rfl | 35, _ => rfl | 36, _ => rfl | 37, _ => rfl | 38, _ => rfl | 39, _ => rfl | 40, _ => rfl | 41, _ => rfl | 42, _ => rfl | 43, _ => rfl | 44, _ => rfl | 45, _ => rfl | 46, _ => rfl | n + 47, hj => exact absurd hj (by omega)) (Nat.le_of_ble_eq_true rfl) (Nat.le_of_ble_eq_true rfl) D_law_0.1.2.1.1 (fun q2 H hP hD hS => ?_)
  refine lv_dup hx hb D_law_0.1.2.1.2 rfl ?_
  have cb2 := callB_of (own := "CopyBenchLaw") (index := 12) (Ts := gd) (ws' := gd) (y := y_Md_init) (bytes := k_Md_init) (maxL := 1) (ret := none) (rm := rmI 1 21 38 1177) (mc := 38) (ms := 1177) (R := room_1) (args := #[Value.ref b]) (s := s) 0 hts (good5 co_Md_init) rfl rfl rfl (hts _ ini_Md) (hts _ ml_law_12) (by decide +kernel) ⟨Nat.le_of_ble_eq_true rfl, Nat.le_of_ble_eq_true rfl⟩
  have hrun2 := va_runI (locs := locs) (cells := 0 + 1 + 125 + 1) (slots := 0 + 13 + 1277 + 47) (below := below) (meth := meth) (l := l) (e := e) (H := H) (g := F0 m (0 + 3 + 1 + 3 + 1 + 3 + 1) ls [.ref q2, .ref q2]) (As := []) (rest := [.ref q2]) (b := q2) (nL := 4) ⟨hx, hb, hml, hown, hts⟩ (ini_c_Md pM rM (dC, dI) cA q2 H.size) ⟨cb2, rfl, hts _ im_Md_init⟩ (iniPc _ q2 10 H hP) rfl rfl (hl.1.trans rfl) rfl (lv_room (Nat.le_of_ble_eq_true rfl)) D_law_0.1.2.2.1 ⟨Nat.le_of_ble_eq_true rfl, Nat.le_of_ble_eq_true rfl⟩
  refine i_fin hrun2 hP hD hS hA (fun ad2 H locs h2 hh2 hP hD hS => ?_)
  refine lv_astore_n (lv' := [(2, .ref q2), (1, .ref q1), (0, .ref b)]) hx hb D_law_0.1.2.2.2 rfl hl (by decide) rfl (fun ls hl => ?_)
  obtain ⟨ad, a0, a1, hP, hD⟩ := fin_F ad1 ad2 hP hD
  have e1 : Value.ref q1 = vR ad 0 := by
    show _ = Value.ref (ad 0)
    rw [a0, h1]
  have e2 : Value.ref q2 = vR ad 126 := by
    show _ = Value.ref (ad 126)
    rw [a1, h2]
  rw [e1, e2] at hl
  have hl := lv_sub hl (l' := [(0, .ref b), (1, vR ad 0), (2, vR ad 126)]) [2, 1, 0] rfl
  obtain ⟨h1', hlaw⟩ := plaw (fun i : Int => (xs i.toNat).toInt) (L : Int) (by omega) (by omega) (fun i => inR_of _)
  have IL : Isl l lay_F ad code 4 "CopyBenchLaw" room_1 (some .boolean) (fun v _ => v = some (vI 1)) (fun h pc lv st => ∀ (H : Heap) (locs : List Loc) (ls : Array Slot), va_P (dC, dI) CL (ws lay_F ad cA h) H → va_D (fun q : Nat => s.heap.size ≤ q) (ws lay_F ad cA h) → va_S (fun q : Nat => s.heap.size ≤ q) s.heap H locs → lv_has ls 4 lv → hr lay_F h → W p l e room_1 s m #[Value.ref b] below meth c H locs (0 + 1 + 125 + 1 + 38) (0 + 13 + 1277 + 47 + 1177) (lw_Z below #[Value.ref b] s) (F0 m pc ls st)) b L xs := by
    refine ⟨p, e, s, m, #[Value.ref b], below, meth, c, _, _, _, (dC, dI), cA, _, s.heap, ⟨hx, hb, hml, hown, hts, hK, wf_F, fun k hk => hD.2 k _ (ws_get (List.getElem?_eq_getElem hk)), Nat.le_of_ble_eq_true rfl, Nat.le_of_ble_eq_true rfl, rfl, ?_⟩, hX, hbl, hbA⟩
    rintro h pc lv v rfl _ hd H locs ls hP hD hS hl hh
    refine va_forget (fun q hq => hS.2.2 q hq) ?_
    refine W.widen (k := 600000) (n := 7302250) (Nat.le_of_ble_eq_true rfl) (Nat.le_of_ble_eq_true rfl) ?_
    exact lw_ret hx hb hr' hlocks hd
  exact law_walk IL wf_F ok_F0 ok_F126 rfl rfl ⟨by omega, by omega⟩ (fun _ => rfl) hlaw H locs ls hP hD hS hl (hr_F rE rM)
