theorem i_s_dup (x : Nat) : Value.category (.ref x) = 1 := rfl
theorem i_conv2 {w w' : va_W} {l : Launch} {D : va_G} {cA : Nat → ClassId} {cc : ByteArray} {nL : Nat} {own : String} {R : Room} {K : va_W → Prop} {mc ms : Nat} {A : Nat → Prop} {Y : va_W → Nat → Nat → Nat → List (Nat × Value) → List Value → Prop} {cl sl pc : Nat} {lv : List (Nat × Value)} {st : List Value} (I : Isi l D cA cc nL own R K mc ms A Y) (e : ∀ H, va_P D CL w H → va_D A w → va_P D CL w' H ∧ va_D A w') (k : Y w' cl sl pc lv st) : Y w cl sl pc lv st := by
  obtain ⟨p, e', s, m, args, below, meth, c, Q, H0, hx, hb, hml, hown, hts, hK, hN, hin, hA, rfl, hret⟩ := I
  intro H locs ls hP hD hS hl
  obtain ⟨h1, h2⟩ := e H hP hD
  exact k H locs ls h1 h2 hS hl
theorem i_rep {D : va_G} {A : Nat → Prop} {w : va_W} {H : Heap} {a k : Nat} {x y : va_E} (hP : va_P D CL w H) (hD : va_D A w) (hk : w[k]? = some (a, x)) (h : va_at D CL (a, x) H → va_at D CL (a, y) H) : va_P D CL (w.set k (a, y)) H ∧ va_D A (w.set k (a, y)) := by
  refine ⟨fun j p hj => ?_, hD.set hk⟩
  by_cases e : j = k
  · subst e
    rw [List.getElem?_set_self (List.getElem?_eq_some_iff.mp hk).1] at hj
    cases hj
    exact h (hP _ _ hk)
  · rw [List.getElem?_set_ne (fun z => e z.symm)] at hj
    exact hP j p hj
theorem i_iast {w : va_W} {l : Launch} {D : va_G} {cA : Nat → ClassId} {cc : ByteArray} {nL : Nat} {own : String} {R : Room} {K : va_W → Prop} {mc ms : Nat} {A : Nat → Prop} {Y : va_W → Nat → Nat → Nat → List (Nat × Value) → List Value → Prop} {cl sl pc pc' : Nat} {lv : List (Nat × Value)} {rest : List Value} (I : Isi l D cA cc nL own R K mc ms A Y) {q n : Nat} {f g : Nat → Int32} {i x : Int} (hi : inR i) (hb : 0 ≤ i ∧ i < (n : Int)) (hg : upd f i.toNat (Int32.ofInt x) = g) (d : decode cc pc = .ok (.iastore, 1)) (hp : pc + 1 = pc') (k : Y (w ++ [(q, .inl (cA 0, n, .inl g))]) cl sl pc' lv rest) : Y (w ++ [(q, .inl (cA 0, n, .inl f))]) cl sl pc lv (vI x :: vI i :: .ref q :: rest) := by
  subst hp
  subst hg
  obtain ⟨p, e', s, m, args, below, meth, c, Q, H0, hx, hb', hml, hown, hts, hK, hN, hin, hA, rfl, hret⟩ := I
  intro H locs ls hP hD hS hl
  have e1 : ∀ z z' : va_E, (w ++ [(q, z)]).set w.length (q, z') = w ++ [(q, z')] := fun z z' => by
    rw [List.set_append_right _ _ (Nat.le_refl _), Nat.sub_self]
    rfl
  have ha : (w ++ [(q, (.inl (cA 0, n, .inl f) : va_E))])[w.length]? = some (q, .inl (cA 0, n, .inl f)) := by simp
  refine va_iast hx hb' hK hP hD hS w.length 0 ha rfl (in_of rfl hi hb) d (fun H1 locs1 hP1 hD1 hS1 => ?_)
  rw [e1, cl_of hi] at hP1 hD1
  exact k H1 locs1 ls hP1 hD1 hS1 hl
theorem ini_of {l : Launch} {y : MethodName} {cc : ByteArray} {nL fr lo mc ms ci : Nat} {τ : TP} {h1 : HP} (hpl : plainName y.cls = true) (hnm : y.name = "<init>") (hlen : 1 ≤ nL) (hh : hr τ h1)
    (body : ∀ (D : va_G) (cA : Nat → ClassId) (q0 : Nat) (A : Nat → Prop) (Y : va_W → Nat → Nat → Nat → List (Nat × Value) → List Value → Prop), Isi l D cA cc nL y.cls (rmI fr lo mc ms) (fun w => ∃ ad : Nat → Nat, ad 0 = q0 ∧ ∀ H, va_P D CL w H → va_D A w → va_P D CL (ws τ ad cA h1) H ∧ va_D A (ws τ ad cA h1)) mc ms A Y → Y [(q0, .inr (ci, nul ci))] 0 0 0 [(0, .ref q0)] []) : Ini l y cc nL fr lo mc ms ci τ h1 := by
  intro D cA q0 sz
  refine Met.ofW (cc := cc) (maxL := nL) (ret := none) hpl rfl ?_
  intro p e s m args below meth c s₁ B hml hv
  obtain ⟨rfl, hsz, hP, hK, hD, hN⟩ := hv
  have hts0 := atoms_spec (ws := .code y cc nL none :: gd) B.pre
  have hts : ∀ w ∈ gd, w.before #[Value.ref q0] s = true := fun w hw => hts0 w (List.mem_cons_of_mem _ hw)
  have hown : s.vm.findClass y.cls = some m.cls := findClass_of_methodNamed B.named
  have hlocks := B.notSynchronized
  have hin : meth.name = "<init>" := (name_of_methodNamed B.named B.method).1.trans hnm
  have hA : ∀ q : Nat, s.heap.size ≤ q → IniA q0 ci sz q := fun q h => Or.inr (by omega)
  subst hsz
  have hD2 : va_D (IniA q0 ci s.heap.size) [(q0, .inr (ci, nul ci))] := hD.self
  have I : Isi l D cA cc nL y.cls (rmI fr lo mc ms) (fun w => ∃ ad : Nat → Nat, ad 0 = q0 ∧ ∀ H, va_P D CL w H → va_D (IniA q0 ci s.heap.size) w → va_P D CL (ws τ ad cA h1) H ∧ va_D (IniA q0 ci s.heap.size) (ws τ ad cA h1)) mc ms (IniA q0 ci s.heap.size) (fun w cl sl pc lv st => ∀ (H : Heap) (locs : List Loc) (ls : Array Slot), va_P D CL w H → va_D (IniA q0 ci s.heap.size) w → va_S (IniA q0 ci s.heap.size) s.heap H locs → lv_has ls nL lv → W p l e (rmI fr lo mc ms) s m #[Value.ref q0] below meth c H locs cl sl (MQ below (va_Qv (fun ad : Nat → Nat => ad 0 = q0) (fun ad t => va_P D CL (ws τ ad cA h1) t.heap ∧ va_K D CL (tysOf cA) t ∧ va_D (IniA q0 ci s.heap.size) (ws τ ad cA h1) ∧ hr τ h1) (IniA q0 ci s.heap.size)) #[Value.ref q0] s mc ms (IniA q0 ci s.heap.size)) (F0 m pc ls st)) := by
    refine ⟨p, e, s, m, _, below, meth, c, _, s.heap, B.exec, B.bytes, hml, hown, hts, hK, hN, hin, hA, rfl, ?_⟩
    rintro w pc lv ⟨ad, h0, hw⟩ hd H locs ls hP2 hD2 hS2 hl2
    obtain ⟨hP3, hD3⟩ := hw H hP2 hD2
    exact W.vret B.exec B.bytes B.returns (fun t ht hW => ⟨⟨ad, rfl, h0, by rw [ht]; exact hP3, va_K.moved hW.alike hK, hD3, hh⟩, hS2.F ht⟩) hS2.2.2 hd
  have hl := lv_entry ([Value.ref q0]) (n := nL) hlen
  rw [lg_entry_eq]
  exact body D cA q0 _ _ I s.heap [] _ hP hD2 va_S.rf hl
theorem i_switch {l : Launch} {D : va_G} {cA : Nat → ClassId} {cc : ByteArray} {nL : Nat} {own : String} {R : Room} {K : va_W → Prop} {mc ms : Nat} {A : Nat → Prop} {Y : va_W → Nat → Nat → Nat → List (Nat × Value) → List Value → Prop} {pc : Nat} {lv : List (Nat × Value)} {st : List Value} {τ : TP} {ad : Nat → Nat} {h0 h1 : HP} (I : Isi l D cA cc nL own R K mc ms A Y) (hw : wf τ) (hmc : mc ≤ R.cells) (hms : ms ≤ R.slots) (hh : hr τ h0) (hK : K (ws τ ad cA h1))
    (k : ∀ Y', Isy l τ ad cc nL own R none (fun v h => v = none ∧ h = h1) Y' → Y' h0 pc lv st) : Y (ws τ ad cA h0) mc ms pc lv st := by
  obtain ⟨p, e', s, m, args, below, meth, c, Q, H0, hx, hb, hml, hown, hts, hK', hN, hin, hA, rfl, hret⟩ := I
  intro H locs ls hP hD hS hl
  have hAd : ∀ k : Nat, k < τ.length → A (ad k) := fun k hk => hD.2 k _ (ws_get (List.getElem?_eq_getElem hk))
  refine k _ ⟨p, e', s, m, args, below, meth, c, mc, ms, Q, D, cA, A, H0, hx, hb, hml, hown, hts, hK', hw, hAd, hmc, hms, rfl, ?_⟩ H locs ls hP hD hS hl hh
  rintro h pc lv v ⟨rfl, rfl⟩ _ hd H locs ls hP hD hS hl hh
  exact hret _ pc lv hK hd H locs ls hP hD hS hl

theorem pq_Cb_12 : PQ "CopyBench" 12 9 0 ((.object "CopyBench$Exam")) true := ⟨R_Cb, F_Cb, 13, t_Cb, rfl, i_Cb, by decide, fl_Cb_12, rfl, t_Cb_ok, n_Cb, rfl, by decide +kernel, rfl⟩
theorem pq_Cb_18 : PQ "CopyBench" 18 9 1 ((.object "CopyBench$Exam")) true := ⟨R_Cb, F_Cb, 13, t_Cb, rfl, i_Cb, by decide, fl_Cb_18, rfl, t_Cb_ok, n_Cb, rfl, by decide +kernel, rfl⟩
theorem pq_Cb_21 : PQ "CopyBench" 21 9 2 ((.object "CopyBench$Exam")) true := ⟨R_Cb, F_Cb, 13, t_Cb, rfl, i_Cb, by decide, fl_Cb_21, rfl, t_Cb_ok, n_Cb, rfl, by decide +kernel, rfl⟩
theorem pq_Cb_24 : PQ "CopyBench" 24 9 3 (.boolean) false := ⟨R_Cb, F_Cb, 13, t_Cb, rfl, i_Cb, by decide, fl_Cb_24, rfl, t_Cb_ok, n_Cb, rfl, by decide +kernel, rfl⟩
theorem pq_Cb_31 : PQ "CopyBench" 31 9 4 ((.object "CopyBench$Text")) true := ⟨R_Cb, F_Cb, 13, t_Cb, rfl, i_Cb, by decide, fl_Cb_31, rfl, t_Cb_ok, n_Cb, rfl, by decide +kernel, rfl⟩
theorem pq_Cb_37 : PQ "CopyBench" 37 9 5 (.array ((.object "CopyBench$Tape"))) true := ⟨R_Cb, F_Cb, 13, t_Cb, rfl, i_Cb, by decide, fl_Cb_37, rfl, t_Cb_ok, n_Cb, rfl, by decide +kernel, rfl⟩
theorem pq_Cb_44 : PQ "CopyBench" 44 9 6 ((.object "CopyBench$Odds")) true := ⟨R_Cb, F_Cb, 13, t_Cb, rfl, i_Cb, by decide, fl_Cb_44, rfl, t_Cb_ok, n_Cb, rfl, by decide +kernel, rfl⟩
theorem pq_Cb_51 : PQ "CopyBench" 51 9 7 ((.object "CopyBench$Ratio")) true := ⟨R_Cb, F_Cb, 13, t_Cb, rfl, i_Cb, by decide, fl_Cb_51, rfl, t_Cb_ok, n_Cb, rfl, by decide +kernel, rfl⟩
theorem pq_Cb_55 : PQ "CopyBench" 55 9 8 ((.object "CopyBench$Ratio")) true := ⟨R_Cb, F_Cb, 13, t_Cb, rfl, i_Cb, by decide, fl_Cb_55, rfl, t_Cb_ok, n_Cb, rfl, by decide +kernel, rfl⟩
theorem pq_Cb_61 : PQ "CopyBench" 61 9 9 ((.object "CopyBench$Ranking")) true := ⟨R_Cb, F_Cb, 13, t_Cb, rfl, i_Cb, by decide, fl_Cb_61, rfl, t_Cb_ok, n_Cb, rfl, by decide +kernel, rfl⟩
theorem pq_Cb_68 : PQ "CopyBench" 68 9 10 ((.object "CopyBench$Links")) true := ⟨R_Cb, F_Cb, 13, t_Cb, rfl, i_Cb, by decide, fl_Cb_68, rfl, t_Cb_ok, n_Cb, rfl, by decide +kernel, rfl⟩
theorem pq_Cb_75 : PQ "CopyBench" 75 9 11 ((.object "CopyBench$Seating")) true := ⟨R_Cb, F_Cb, 13, t_Cb, rfl, i_Cb, by decide, fl_Cb_75, rfl, t_Cb_ok, n_Cb, rfl, by decide +kernel, rfl⟩
theorem pq_Cb_82 : PQ "CopyBench" 82 9 12 ((.object "CopyBench$Draws")) true := ⟨R_Cb, F_Cb, 13, t_Cb, rfl, i_Cb, by decide, fl_Cb_82, rfl, t_Cb_ok, n_Cb, rfl, by decide +kernel, rfl⟩
theorem pq_Md_9 : PQ "CopyBenchModel" 9 10 0 (.int) false := ⟨R_Md, F_Md, 47, t_Md, rfl, i_Md, by decide, fl_Md_9, rfl, t_Md_ok, n_Md, rfl, by decide +kernel, rfl⟩
theorem pq_Md_15 : PQ "CopyBenchModel" 15 10 2 (.array .int) true := ⟨R_Md, F_Md, 47, t_Md, rfl, i_Md, by decide, fl_Md_15, rfl, t_Md_ok, n_Md, rfl, by decide +kernel, rfl⟩
theorem pq_Md_19 : PQ "CopyBenchModel" 19 10 3 (.array .int) true := ⟨R_Md, F_Md, 47, t_Md, rfl, i_Md, by decide, fl_Md_19, rfl, t_Md_ok, n_Md, rfl, by decide +kernel, rfl⟩
theorem pq_Md_22 : PQ "CopyBenchModel" 22 10 4 (.array .int) true := ⟨R_Md, F_Md, 47, t_Md, rfl, i_Md, by decide, fl_Md_22, rfl, t_Md_ok, n_Md, rfl, by decide +kernel, rfl⟩
theorem pq_Md_25 : PQ "CopyBenchModel" 25 10 5 (.array .int) true := ⟨R_Md, F_Md, 47, t_Md, rfl, i_Md, by decide, fl_Md_25, rfl, t_Md_ok, n_Md, rfl, by decide +kernel, rfl⟩
theorem pq_Md_28 : PQ "CopyBenchModel" 28 10 6 (.array .int) true := ⟨R_Md, F_Md, 47, t_Md, rfl, i_Md, by decide, fl_Md_28, rfl, t_Md_ok, n_Md, rfl, by decide +kernel, rfl⟩
theorem pq_Md_31 : PQ "CopyBenchModel" 31 10 7 (.array .int) true := ⟨R_Md, F_Md, 47, t_Md, rfl, i_Md, by decide, fl_Md_31, rfl, t_Md_ok, n_Md, rfl, by decide +kernel, rfl⟩
theorem pq_Md_34 : PQ "CopyBenchModel" 34 10 8 (.array .int) true := ⟨R_Md, F_Md, 47, t_Md, rfl, i_Md, by decide, fl_Md_34, rfl, t_Md_ok, n_Md, rfl, by decide +kernel, rfl⟩
theorem pq_Md_37 : PQ "CopyBenchModel" 37 10 9 (.array .int) true := ⟨R_Md, F_Md, 47, t_Md, rfl, i_Md, by decide, fl_Md_37, rfl, t_Md_ok, n_Md, rfl, by decide +kernel, rfl⟩
theorem pq_Md_40 : PQ "CopyBenchModel" 40 10 10 (.array .int) true := ⟨R_Md, F_Md, 47, t_Md, rfl, i_Md, by decide, fl_Md_40, rfl, t_Md_ok, n_Md, rfl, by decide +kernel, rfl⟩
theorem pq_Md_43 : PQ "CopyBenchModel" 43 10 11 (.array .int) true := ⟨R_Md, F_Md, 47, t_Md, rfl, i_Md, by decide, fl_Md_43, rfl, t_Md_ok, n_Md, rfl, by decide +kernel, rfl⟩
theorem pq_Md_46 : PQ "CopyBenchModel" 46 10 12 (.array .int) true := ⟨R_Md, F_Md, 47, t_Md, rfl, i_Md, by decide, fl_Md_46, rfl, t_Md_ok, n_Md, rfl, by decide +kernel, rfl⟩
theorem pq_Md_49 : PQ "CopyBenchModel" 49 10 13 (.array .int) true := ⟨R_Md, F_Md, 47, t_Md, rfl, i_Md, by decide, fl_Md_49, rfl, t_Md_ok, n_Md, rfl, by decide +kernel, rfl⟩
theorem pq_Md_52 : PQ "CopyBenchModel" 52 10 14 (.array .int) true := ⟨R_Md, F_Md, 47, t_Md, rfl, i_Md, by decide, fl_Md_52, rfl, t_Md_ok, n_Md, rfl, by decide +kernel, rfl⟩
theorem pq_Md_55 : PQ "CopyBenchModel" 55 10 17 (.array .int) true := ⟨R_Md, F_Md, 47, t_Md, rfl, i_Md, by decide, fl_Md_55, rfl, t_Md_ok, n_Md, rfl, by decide +kernel, rfl⟩
theorem pq_Md_58 : PQ "CopyBenchModel" 58 10 19 (.array .int) true := ⟨R_Md, F_Md, 47, t_Md, rfl, i_Md, by decide, fl_Md_58, rfl, t_Md_ok, n_Md, rfl, by decide +kernel, rfl⟩
theorem pq_Md_61 : PQ "CopyBenchModel" 61 10 26 (.array .long) true := ⟨R_Md, F_Md, 47, t_Md, rfl, i_Md, by decide, fl_Md_61, rfl, t_Md_ok, n_Md, rfl, by decide +kernel, rfl⟩
theorem pq_Md_65 : PQ "CopyBenchModel" 65 10 27 (.array .long) true := ⟨R_Md, F_Md, 47, t_Md, rfl, i_Md, by decide, fl_Md_65, rfl, t_Md_ok, n_Md, rfl, by decide +kernel, rfl⟩
theorem pq_Md_68 : PQ "CopyBenchModel" 68 10 30 (.array .int) true := ⟨R_Md, F_Md, 47, t_Md, rfl, i_Md, by decide, fl_Md_68, rfl, t_Md_ok, n_Md, rfl, by decide +kernel, rfl⟩
theorem pq_Md_71 : PQ "CopyBenchModel" 71 10 31 (.array .int) true := ⟨R_Md, F_Md, 47, t_Md, rfl, i_Md, by decide, fl_Md_71, rfl, t_Md_ok, n_Md, rfl, by decide +kernel, rfl⟩
theorem pq_Md_74 : PQ "CopyBenchModel" 74 10 32 (.array .long) true := ⟨R_Md, F_Md, 47, t_Md, rfl, i_Md, by decide, fl_Md_74, rfl, t_Md_ok, n_Md, rfl, by decide +kernel, rfl⟩
theorem pq_Md_77 : PQ "CopyBenchModel" 77 10 33 (.array .long) true := ⟨R_Md, F_Md, 47, t_Md, rfl, i_Md, by decide, fl_Md_77, rfl, t_Md_ok, n_Md, rfl, by decide +kernel, rfl⟩
theorem pq_Md_80 : PQ "CopyBenchModel" 80 10 34 (.array .boolean) true := ⟨R_Md, F_Md, 47, t_Md, rfl, i_Md, by decide, fl_Md_80, rfl, t_Md_ok, n_Md, rfl, by decide +kernel, rfl⟩
theorem pq_Md_84 : PQ "CopyBenchModel" 84 10 35 (.array .int) true := ⟨R_Md, F_Md, 47, t_Md, rfl, i_Md, by decide, fl_Md_84, rfl, t_Md_ok, n_Md, rfl, by decide +kernel, rfl⟩
theorem pq_Md_87 : PQ "CopyBenchModel" 87 10 36 (.array .int) true := ⟨R_Md, F_Md, 47, t_Md, rfl, i_Md, by decide, fl_Md_87, rfl, t_Md_ok, n_Md, rfl, by decide +kernel, rfl⟩
theorem pq_Md_90 : PQ "CopyBenchModel" 90 10 37 (.array .int) true := ⟨R_Md, F_Md, 47, t_Md, rfl, i_Md, by decide, fl_Md_90, rfl, t_Md_ok, n_Md, rfl, by decide +kernel, rfl⟩
theorem pq_Md_93 : PQ "CopyBenchModel" 93 10 40 (.array .int) true := ⟨R_Md, F_Md, 47, t_Md, rfl, i_Md, by decide, fl_Md_93, rfl, t_Md_ok, n_Md, rfl, by decide +kernel, rfl⟩
theorem pq_Md_96 : PQ "CopyBenchModel" 96 10 41 (.array .int) true := ⟨R_Md, F_Md, 47, t_Md, rfl, i_Md, by decide, fl_Md_96, rfl, t_Md_ok, n_Md, rfl, by decide +kernel, rfl⟩
theorem pq_Md_99 : PQ "CopyBenchModel" 99 10 42 (.array .int) true := ⟨R_Md, F_Md, 47, t_Md, rfl, i_Md, by decide, fl_Md_99, rfl, t_Md_ok, n_Md, rfl, by decide +kernel, rfl⟩
theorem pq_Md_104 : PQ "CopyBenchModel" 104 10 43 (.array (.array .long)) true := ⟨R_Md, F_Md, 47, t_Md, rfl, i_Md, by decide, fl_Md_104, rfl, t_Md_ok, n_Md, rfl, by decide +kernel, rfl⟩
theorem pq_Md_107 : PQ "CopyBenchModel" 107 10 44 (.array .int) true := ⟨R_Md, F_Md, 47, t_Md, rfl, i_Md, by decide, fl_Md_107, rfl, t_Md_ok, n_Md, rfl, by decide +kernel, rfl⟩
theorem pq_Md_110 : PQ "CopyBenchModel" 110 10 45 (.array .int) true := ⟨R_Md, F_Md, 47, t_Md, rfl, i_Md, by decide, fl_Md_110, rfl, t_Md_ok, n_Md, rfl, by decide +kernel, rfl⟩
theorem pq_Md_113 : PQ "CopyBenchModel" 113 10 46 (.array .long) true := ⟨R_Md, F_Md, 47, t_Md, rfl, i_Md, by decide, fl_Md_113, rfl, t_Md_ok, n_Md, rfl, by decide +kernel, rfl⟩
theorem pq_Draws_9 : PQ "CopyBench$Draws" 9 0 0 (.int) false := ⟨R_Draws, F_Draws, 1, t_Draws, rfl, i_Draws, by decide, fl_Draws_9, rfl, t_Draws_ok, n_Draws, rfl, by decide +kernel, rfl⟩
theorem pq_Exam_9 : PQ "CopyBench$Exam" 9 1 0 (.int) false := ⟨R_Exam, F_Exam, 17, t_Exam, rfl, i_Exam, by decide, fl_Exam_9, rfl, t_Exam_ok, n_Exam, rfl, by decide +kernel, rfl⟩
theorem pq_Exam_15 : PQ "CopyBench$Exam" 15 1 1 (.int) false := ⟨R_Exam, F_Exam, 17, t_Exam, rfl, i_Exam, by decide, fl_Exam_15, rfl, t_Exam_ok, n_Exam, rfl, by decide +kernel, rfl⟩
theorem pq_Exam_18 : PQ "CopyBench$Exam" 18 1 2 (.int) false := ⟨R_Exam, F_Exam, 17, t_Exam, rfl, i_Exam, by decide, fl_Exam_18, rfl, t_Exam_ok, n_Exam, rfl, by decide +kernel, rfl⟩
theorem pq_Exam_21 : PQ "CopyBench$Exam" 21 1 3 (.int) false := ⟨R_Exam, F_Exam, 17, t_Exam, rfl, i_Exam, by decide, fl_Exam_21, rfl, t_Exam_ok, n_Exam, rfl, by decide +kernel, rfl⟩
theorem pq_Exam_24 : PQ "CopyBench$Exam" 24 1 4 (.array .int) true := ⟨R_Exam, F_Exam, 17, t_Exam, rfl, i_Exam, by decide, fl_Exam_24, rfl, t_Exam_ok, n_Exam, rfl, by decide +kernel, rfl⟩
theorem pq_Exam_28 : PQ "CopyBench$Exam" 28 1 5 (.array .int) true := ⟨R_Exam, F_Exam, 17, t_Exam, rfl, i_Exam, by decide, fl_Exam_28, rfl, t_Exam_ok, n_Exam, rfl, by decide +kernel, rfl⟩
theorem pq_Exam_33 : PQ "CopyBench$Exam" 33 1 6 (.array (.array .int)) true := ⟨R_Exam, F_Exam, 17, t_Exam, rfl, i_Exam, by decide, fl_Exam_33, rfl, t_Exam_ok, n_Exam, rfl, by decide +kernel, rfl⟩
theorem pq_Exam_36 : PQ "CopyBench$Exam" 36 1 7 (.array (.array .int)) true := ⟨R_Exam, F_Exam, 17, t_Exam, rfl, i_Exam, by decide, fl_Exam_36, rfl, t_Exam_ok, n_Exam, rfl, by decide +kernel, rfl⟩
theorem pq_Exam_39 : PQ "CopyBench$Exam" 39 1 8 (.array .int) true := ⟨R_Exam, F_Exam, 17, t_Exam, rfl, i_Exam, by decide, fl_Exam_39, rfl, t_Exam_ok, n_Exam, rfl, by decide +kernel, rfl⟩
theorem pq_Exam_42 : PQ "CopyBench$Exam" 42 1 9 (.array .int) true := ⟨R_Exam, F_Exam, 17, t_Exam, rfl, i_Exam, by decide, fl_Exam_42, rfl, t_Exam_ok, n_Exam, rfl, by decide +kernel, rfl⟩
theorem pq_Exam_45 : PQ "CopyBench$Exam" 45 1 10 (.array .int) true := ⟨R_Exam, F_Exam, 17, t_Exam, rfl, i_Exam, by decide, fl_Exam_45, rfl, t_Exam_ok, n_Exam, rfl, by decide +kernel, rfl⟩
theorem pq_Exam_48 : PQ "CopyBench$Exam" 48 1 11 (.array .int) true := ⟨R_Exam, F_Exam, 17, t_Exam, rfl, i_Exam, by decide, fl_Exam_48, rfl, t_Exam_ok, n_Exam, rfl, by decide +kernel, rfl⟩
theorem pq_Exam_51 : PQ "CopyBench$Exam" 51 1 12 (.array .int) true := ⟨R_Exam, F_Exam, 17, t_Exam, rfl, i_Exam, by decide, fl_Exam_51, rfl, t_Exam_ok, n_Exam, rfl, by decide +kernel, rfl⟩
theorem pq_Exam_54 : PQ "CopyBench$Exam" 54 1 13 (.array .boolean) true := ⟨R_Exam, F_Exam, 17, t_Exam, rfl, i_Exam, by decide, fl_Exam_54, rfl, t_Exam_ok, n_Exam, rfl, by decide +kernel, rfl⟩
theorem pq_Exam_58 : PQ "CopyBench$Exam" 58 1 14 (.array .int) true := ⟨R_Exam, F_Exam, 17, t_Exam, rfl, i_Exam, by decide, fl_Exam_58, rfl, t_Exam_ok, n_Exam, rfl, by decide +kernel, rfl⟩
theorem pq_Exam_61 : PQ "CopyBench$Exam" 61 1 15 (.array .int) true := ⟨R_Exam, F_Exam, 17, t_Exam, rfl, i_Exam, by decide, fl_Exam_61, rfl, t_Exam_ok, n_Exam, rfl, by decide +kernel, rfl⟩
theorem pq_Exam_64 : PQ "CopyBench$Exam" 64 1 16 (.array .int) true := ⟨R_Exam, F_Exam, 17, t_Exam, rfl, i_Exam, by decide, fl_Exam_64, rfl, t_Exam_ok, n_Exam, rfl, by decide +kernel, rfl⟩
theorem pq_Links_9 : PQ "CopyBench$Links" 9 2 0 (.array .int) true := ⟨R_Links, F_Links, 1, t_Links, rfl, i_Links, by decide, fl_Links_9, rfl, t_Links_ok, n_Links, rfl, by decide +kernel, rfl⟩
theorem pq_Odds_9 : PQ "CopyBench$Odds" 9 3 0 (.array .int) true := ⟨R_Odds, F_Odds, 9, t_Odds, rfl, i_Odds, by decide, fl_Odds_9, rfl, t_Odds_ok, n_Odds, rfl, by decide +kernel, rfl⟩
theorem pq_Odds_15 : PQ "CopyBench$Odds" 15 3 1 (.int) false := ⟨R_Odds, F_Odds, 9, t_Odds, rfl, i_Odds, by decide, fl_Odds_15, rfl, t_Odds_ok, n_Odds, rfl, by decide +kernel, rfl⟩
theorem pq_Odds_19 : PQ "CopyBench$Odds" 19 3 2 (.long) false := ⟨R_Odds, F_Odds, 9, t_Odds, rfl, i_Odds, by decide, fl_Odds_19, rfl, t_Odds_ok, n_Odds, rfl, by decide +kernel, rfl⟩
theorem pq_Odds_23 : PQ "CopyBench$Odds" 23 3 3 (.array .long) true := ⟨R_Odds, F_Odds, 9, t_Odds, rfl, i_Odds, by decide, fl_Odds_23, rfl, t_Odds_ok, n_Odds, rfl, by decide +kernel, rfl⟩
theorem pq_Odds_27 : PQ "CopyBench$Odds" 27 3 4 (.long) false := ⟨R_Odds, F_Odds, 9, t_Odds, rfl, i_Odds, by decide, fl_Odds_27, rfl, t_Odds_ok, n_Odds, rfl, by decide +kernel, rfl⟩
theorem pq_Odds_30 : PQ "CopyBench$Odds" 30 3 5 (.int) false := ⟨R_Odds, F_Odds, 9, t_Odds, rfl, i_Odds, by decide, fl_Odds_30, rfl, t_Odds_ok, n_Odds, rfl, by decide +kernel, rfl⟩
theorem pq_Odds_33 : PQ "CopyBench$Odds" 33 3 6 (.long) false := ⟨R_Odds, F_Odds, 9, t_Odds, rfl, i_Odds, by decide, fl_Odds_33, rfl, t_Odds_ok, n_Odds, rfl, by decide +kernel, rfl⟩
theorem pq_Odds_36 : PQ "CopyBench$Odds" 36 3 7 (.long) false := ⟨R_Odds, F_Odds, 9, t_Odds, rfl, i_Odds, by decide, fl_Odds_36, rfl, t_Odds_ok, n_Odds, rfl, by decide +kernel, rfl⟩
theorem pq_Odds_39 : PQ "CopyBench$Odds" 39 3 8 (.long) false := ⟨R_Odds, F_Odds, 9, t_Odds, rfl, i_Odds, by decide, fl_Odds_39, rfl, t_Odds_ok, n_Odds, rfl, by decide +kernel, rfl⟩
theorem pq_Ranking_9 : PQ "CopyBench$Ranking" 9 4 0 (.int) false := ⟨R_Ranking, F_Ranking, 8, t_Ranking, rfl, i_Ranking, by decide, fl_Ranking_9, rfl, t_Ranking_ok, n_Ranking, rfl, by decide +kernel, rfl⟩
theorem pq_Ranking_15 : PQ "CopyBench$Ranking" 15 4 1 (.int) false := ⟨R_Ranking, F_Ranking, 8, t_Ranking, rfl, i_Ranking, by decide, fl_Ranking_15, rfl, t_Ranking_ok, n_Ranking, rfl, by decide +kernel, rfl⟩
theorem pq_Ranking_18 : PQ "CopyBench$Ranking" 18 4 2 (.array .int) true := ⟨R_Ranking, F_Ranking, 8, t_Ranking, rfl, i_Ranking, by decide, fl_Ranking_18, rfl, t_Ranking_ok, n_Ranking, rfl, by decide +kernel, rfl⟩
theorem pq_Ranking_22 : PQ "CopyBench$Ranking" 22 4 3 (.array .int) true := ⟨R_Ranking, F_Ranking, 8, t_Ranking, rfl, i_Ranking, by decide, fl_Ranking_22, rfl, t_Ranking_ok, n_Ranking, rfl, by decide +kernel, rfl⟩
theorem pq_Ranking_25 : PQ "CopyBench$Ranking" 25 4 4 (.array .long) true := ⟨R_Ranking, F_Ranking, 8, t_Ranking, rfl, i_Ranking, by decide, fl_Ranking_25, rfl, t_Ranking_ok, n_Ranking, rfl, by decide +kernel, rfl⟩
theorem pq_Ranking_29 : PQ "CopyBench$Ranking" 29 4 5 (.array .long) true := ⟨R_Ranking, F_Ranking, 8, t_Ranking, rfl, i_Ranking, by decide, fl_Ranking_29, rfl, t_Ranking_ok, n_Ranking, rfl, by decide +kernel, rfl⟩
theorem pq_Ranking_35 : PQ "CopyBench$Ranking" 35 4 6 ((.object "CopyBench$Ratio")) true := ⟨R_Ranking, F_Ranking, 8, t_Ranking, rfl, i_Ranking, by decide, fl_Ranking_35, rfl, t_Ranking_ok, n_Ranking, rfl, by decide +kernel, rfl⟩
theorem pq_Ranking_39 : PQ "CopyBench$Ranking" 39 4 7 ((.object "CopyBench$Ratio")) true := ⟨R_Ranking, F_Ranking, 8, t_Ranking, rfl, i_Ranking, by decide, fl_Ranking_39, rfl, t_Ranking_ok, n_Ranking, rfl, by decide +kernel, rfl⟩
theorem pq_Ratio_7 : PQ "CopyBench$Ratio" 7 5 0 (.long) false := ⟨R_Ratio, F_Ratio, 2, t_Ratio, rfl, i_Ratio, by decide, fl_Ratio_7, rfl, t_Ratio_ok, n_Ratio, rfl, by decide +kernel, rfl⟩
theorem pq_Ratio_13 : PQ "CopyBench$Ratio" 13 5 1 (.long) false := ⟨R_Ratio, F_Ratio, 2, t_Ratio, rfl, i_Ratio, by decide, fl_Ratio_13, rfl, t_Ratio_ok, n_Ratio, rfl, by decide +kernel, rfl⟩
theorem pq_Seating_7 : PQ "CopyBench$Seating" 7 6 0 (.int) false := ⟨R_Seating, F_Seating, 5, t_Seating, rfl, i_Seating, by decide, fl_Seating_7, rfl, t_Seating_ok, n_Seating, rfl, by decide +kernel, rfl⟩
theorem pq_Seating_13 : PQ "CopyBench$Seating" 13 6 1 (.array .int) true := ⟨R_Seating, F_Seating, 5, t_Seating, rfl, i_Seating, by decide, fl_Seating_13, rfl, t_Seating_ok, n_Seating, rfl, by decide +kernel, rfl⟩
theorem pq_Seating_17 : PQ "CopyBench$Seating" 17 6 2 (.array .int) true := ⟨R_Seating, F_Seating, 5, t_Seating, rfl, i_Seating, by decide, fl_Seating_17, rfl, t_Seating_ok, n_Seating, rfl, by decide +kernel, rfl⟩
theorem pq_Seating_20 : PQ "CopyBench$Seating" 20 6 3 (.array .int) true := ⟨R_Seating, F_Seating, 5, t_Seating, rfl, i_Seating, by decide, fl_Seating_20, rfl, t_Seating_ok, n_Seating, rfl, by decide +kernel, rfl⟩
theorem pq_Seating_23 : PQ "CopyBench$Seating" 23 6 4 (.array .int) true := ⟨R_Seating, F_Seating, 5, t_Seating, rfl, i_Seating, by decide, fl_Seating_23, rfl, t_Seating_ok, n_Seating, rfl, by decide +kernel, rfl⟩
theorem pq_Tape_9 : PQ "CopyBench$Tape" 9 7 0 (.int) false := ⟨R_Tape, F_Tape, 3, t_Tape, rfl, i_Tape, by decide, fl_Tape_9, rfl, t_Tape_ok, n_Tape, rfl, by decide +kernel, rfl⟩
theorem pq_Tape_13 : PQ "CopyBench$Tape" 13 7 1 (.int) false := ⟨R_Tape, F_Tape, 3, t_Tape, rfl, i_Tape, by decide, fl_Tape_13, rfl, t_Tape_ok, n_Tape, rfl, by decide +kernel, rfl⟩
theorem pq_Tape_16 : PQ "CopyBench$Tape" 16 7 2 (.array .long) true := ⟨R_Tape, F_Tape, 3, t_Tape, rfl, i_Tape, by decide, fl_Tape_16, rfl, t_Tape_ok, n_Tape, rfl, by decide +kernel, rfl⟩
theorem pq_Text_9 : PQ "CopyBench$Text" 9 8 0 (.int) false := ⟨R_Text, F_Text, 2, t_Text, rfl, i_Text, by decide, fl_Text_9, rfl, t_Text_ok, n_Text, rfl, by decide +kernel, rfl⟩
theorem pq_Text_15 : PQ "CopyBench$Text" 15 8 1 (.array .int) true := ⟨R_Text, F_Text, 2, t_Text, rfl, i_Text, by decide, fl_Text_15, rfl, t_Text_ok, n_Text, rfl, by decide +kernel, rfl⟩
def lay_Draws : TP := [(4, 0)]
def lay_Exam : TP := [(4, 1), (0, 8), (0, 8), (3, 0), (0, 4), (0, 4), (0, 4), (0, 4), (0, 4), (0, 4), (0, 4), (0, 4), (3, 1), (0, 8), (0, 8), (0, 8), (0, 8), (0, 8), (0, 8), (0, 8), (0, 8), (0, 8), (0, 8), (0, 6), (0, 5), (0, 5), (2, 5), (0, 8), (0, 8), (0, 8)]
def lay_Links : TP := [(4, 2), (0, 8)]
def lay_Odds : TP := [(4, 3), (0, 4), (1, 33)]
def lay_Ranking : TP := [(4, 4), (0, 28), (0, 28), (1, 28), (1, 28), (4, 5), (4, 5)]
def lay_Ratio : TP := [(4, 5)]
def lay_Seating : TP := [(4, 6), (0, 6), (0, 6), (0, 6), (0, 6)]
def lay_Tape : TP := [(4, 7), (1, 60)]
def lay_Text : TP := [(4, 8), (0, 60)]
def lay_Cb : TP := [(4, 9), (4, 1), (0, 8), (0, 8), (3, 0), (0, 4), (0, 4), (0, 4), (0, 4), (0, 4), (0, 4), (0, 4), (0, 4), (3, 1), (0, 8), (0, 8), (0, 8), (0, 8), (0, 8), (0, 8), (0, 8), (0, 8), (0, 8), (0, 8), (0, 6), (0, 5), (0, 5), (2, 5), (0, 8), (0, 8), (0, 8), (4, 1), (0, 8), (0, 8), (3, 0), (0, 4), (0, 4), (0, 4), (0, 4), (0, 4), (0, 4), (0, 4), (0, 4), (3, 1), (0, 8), (0, 8), (0, 8), (0, 8), (0, 8), (0, 8), (0, 8), (0, 8), (0, 8), (0, 8), (0, 6), (0, 5), (0, 5), (2, 5), (0, 8), (0, 8), (0, 8), (4, 1), (0, 8), (0, 8), (3, 0), (0, 4), (0, 4), (0, 4), (0, 4), (0, 4), (0, 4), (0, 4), (0, 4), (3, 1), (0, 8), (0, 8), (0, 8), (0, 8), (0, 8), (0, 8), (0, 8), (0, 8), (0, 8), (0, 8), (0, 6), (0, 5), (0, 5), (2, 5), (0, 8), (0, 8), (0, 8), (4, 8), (0, 60), (3, 2), (4, 3), (0, 4), (1, 33), (4, 5), (4, 5), (4, 4), (0, 28), (0, 28), (1, 28), (1, 28), (4, 5), (4, 5), (4, 2), (0, 8), (4, 6), (0, 6), (0, 6), (0, 6), (0, 6), (4, 0), (4, 7), (1, 60), (4, 7), (1, 60), (4, 7), (1, 60), (4, 7), (1, 60), (4, 7), (1, 60), (4, 7), (1, 60)]
def lay_Md : TP := [(4, 10), (0, 8), (0, 8), (0, 32), (0, 64), (0, 8), (0, 8), (0, 6), (0, 5), (0, 5), (0, 5), (0, 8), (0, 8), (0, 8), (0, 60), (0, 200), (1, 33), (1, 33), (0, 28), (0, 28), (1, 28), (1, 28), (2, 28), (0, 8), (0, 6), (0, 6), (0, 64), (0, 8), (0, 8), (3, 3), (1, 60), (1, 60), (1, 60), (1, 60), (1, 60), (1, 60), (0, 6), (0, 6), (1, 60)]
def hi_Draws : HP := fun p j => 0
def hi_Links : HP := fun p j => 0
def hi_Odds : HP := fun p j => if p = 0 then (if j = 4 then 1 else if j = 8 then 1 else 0) else 0
def hi_Ratio : HP := fun p j => if p = 0 then (if j = 1 then 1 else 0) else 0
def hi_Seating : HP := fun p j => 0
def hi_Tape : HP := fun p j => if p = 0 then (if j = 0 then (-1) else 0) else 0
def hi_Text : HP := fun p j => 0
def hi_Ranking : HP := fun p j => if p = 5 then (if j = 1 then 1 else 0) else if p = 6 then (if j = 1 then 1 else 0) else 0
def hi_Exam : HP := fun p j => 0
def hi_Md : HP := fun p j => if p = 0 then (if j = 0 then 4 else 0) else if p = 7 then (if j = 2 then 50 else if j = 5 then 1 else 0) else if p = 36 then (if j = 0 then (-1) else if j = 1 then (-1) else if j = 2 then (-1) else if j = 3 then (-1) else if j = 4 then (-1) else if j = 5 then (-1) else 0) else 0
theorem hr_of {τ : TP} {h : HP} (e : ∀ k : Nat, k < τ.length → hr1 h k (τ.getD k (9, 9))) : hr τ h := by
  intro k kd hk
  have hl := (List.getElem?_eq_some_iff.mp hk).1
  have := e k hl
  rwa [List.getD_eq_getElem?_getD, hk] at this
/-- a heap whose numbers are all small, and 0 or 1 where booleans are -/
def okh (τ : TP) (h : HP) : Prop := ∀ p j : Int, inR (h p j)
theorem hr_small {τ : TP} {h : HP} (e : ∀ p j : Int, inR (h p j)) (e2 : ∀ (k : Nat) (n : Nat), τ[k]? = some (2, n) → ∀ j : Nat, j < n → b01 (h k j)) (e3 : ∀ (k : Nat) (a ci : Nat), τ[k]? = some (a + 4, ci) → ∀ (j : Nat) (t : Nat × Nat), (FT ci)[j]? = some t → t.1 = 2 → b01 (h k j)) : hr τ h := by
  intro k kd hk
  match kd, hk with
  | (0, n), _ => exact fun j _ => e _ _
  | (1, n), _ => exact fun j _ => (e _ _).L
  | (2, n), hk => exact e2 k n hk
  | (3, _), _ => trivial
  | (a + 4, ci), hk =>
    intro j t ht
    match t, ht with
    | (0, _), _ => exact e _ _
    | (1, _), _ => exact (e _ _).L
    | (2, _), ht => exact e3 k a ci hk j _ ht rfl
    | (_ + 3, _), _ => trivial

theorem hr_Draws : hr lay_Draws hi_Draws := by
  refine hr_small (fun p j => ?_) (fun k n hk j hj => ?_) (fun k a ci hk j t ht h2 => ?_)
  · unfold hi_Draws inR
    (repeat' split) <;> omega
  · exfalso
    have h1 : ∀ x ∈ lay_Draws, x.1 ≠ 2 := by decide
    exact h1 _ (List.mem_of_getElem? hk) rfl
  · exfalso
    have h1 : ∀ x ∈ lay_Draws, ∀ t ∈ FT x.2, 4 ≤ x.1 → t.1 ≠ 2 := by decide
    exact h1 _ (List.mem_of_getElem? hk) t (List.mem_of_getElem? ht) (Nat.le_add_left 4 a) h2
set_option maxHeartbeats 4000000 in
set_option maxRecDepth 20000 in
theorem ini_c_Draws {l : Launch} : Ini l y_Draws_init k_Draws_init 1 1 12 0 0 0 lay_Draws hi_Draws := by
  refine ini_of (by decide) rfl (by decide) hr_Draws (fun D cA q0 A Y I => ?_)
  show Y [(q0, .inr (0, [.int 0]))] 0 0 0 [(0, .ref q0)] []
  refine i_s I (s_raload_n (pc' := 1) 0 rfl D_Draws_init_0.1.1 rfl rfl) ?_
  refine i_obj (pc' := 4) I ml_Draws_3 (Nat.le_of_ble_eq_true rfl) (Nat.le_of_ble_eq_true rfl) D_Draws_init_0.1.2.1 rfl ?_
  refine i_s I (s_raload_n (pc' := 5) 0 rfl D_Draws_init_0.1.2.2 rfl rfl) ?_
  refine i_s I (s_iconst (pc' := 6) D_Draws_init_0.2.1 rfl) ?_
  refine i_put (pc' := 9) (fs' := [(vI 0)]) I pq_Draws_9 rfl (Nat.le_of_ble_eq_true rfl) rfl rfl D_Draws_init_0.2.2.1 rfl ?_
  exact i_ret I ⟨fun k => [q0].getD k 0, rfl, fun H hP hD => ⟨hP, hD⟩⟩ D_Draws_init_0.2.2.2
theorem hr_Links : hr lay_Links hi_Links := by
  refine hr_small (fun p j => ?_) (fun k n hk j hj => ?_) (fun k a ci hk j t ht h2 => ?_)
  · unfold hi_Links inR
    (repeat' split) <;> omega
  · exfalso
    have h1 : ∀ x ∈ lay_Links, x.1 ≠ 2 := by decide
    exact h1 _ (List.mem_of_getElem? hk) rfl
  · exfalso
    have h1 : ∀ x ∈ lay_Links, ∀ t ∈ FT x.2, 4 ≤ x.1 → t.1 ≠ 2 := by decide
    exact h1 _ (List.mem_of_getElem? hk) t (List.mem_of_getElem? ht) (Nat.le_add_left 4 a) h2
set_option maxHeartbeats 4000000 in
set_option maxRecDepth 20000 in
theorem ini_c_Links {l : Launch} : Ini l y_Links_init k_Links_init 1 1 12 1 8 2 lay_Links hi_Links := by
  refine ini_of (by decide) rfl (by decide) hr_Links (fun D cA q0 A Y I => ?_)
  show Y [(q0, .inr (2, [.null]))] 0 0 0 [(0, .ref q0)] []
  refine i_s I (s_raload_n (pc' := 1) 0 rfl D_Links_init_0.1.1 rfl rfl) ?_
  refine i_obj (pc' := 4) I ml_Links_3 (Nat.le_of_ble_eq_true rfl) (Nat.le_of_ble_eq_true rfl) D_Links_init_0.1.2.1 rfl ?_
  refine i_s I (s_raload_n (pc' := 5) 0 rfl D_Links_init_0.1.2.2 rfl rfl) ?_
  refine i_s I (s_bipush (pc' := 7) D_Links_init_0.2.1.1 rfl rfl) ?_
  refine i_newa (pc' := 9) (cl' := 1) (sl' := 8) (t := 0) (n := 8) (ty := .int) I w_arrayClass_1123 rfl rfl (fun c => rfl) (inR_c rfl) rfl (Nat.le_of_ble_eq_true rfl) (Nat.le_of_ble_eq_true rfl) (Nat.le_of_ble_eq_true rfl) D_Links_init_0.2.1.2 rfl rfl rfl (fun q1 => ?_)
  show Y ([(q0, .inr (2, [.null])), (q1, .inl (cA 0, zarr 0 8))]) 1 8 9 [(0, .ref q0)] [.ref q1, .ref q0]
  refine i_put (pc' := 12) (fs' := [(.ref q1)]) I pq_Links_9 rfl (Nat.le_of_ble_eq_true rfl) rfl rfl D_Links_init_0.2.2.1 rfl ?_
  exact i_ret I ⟨fun k => [q0, q1].getD k 0, rfl, fun H hP hD => ⟨hP, hD⟩⟩ D_Links_init_0.2.2.2
theorem hr_Odds : hr lay_Odds hi_Odds := by
  refine hr_small (fun p j => ?_) (fun k n hk j hj => ?_) (fun k a ci hk j t ht h2 => ?_)
  · unfold hi_Odds inR
    (repeat' split) <;> omega
  · exfalso
    have h1 : ∀ x ∈ lay_Odds, x.1 ≠ 2 := by decide
    exact h1 _ (List.mem_of_getElem? hk) rfl
  · exfalso
    have h1 : ∀ x ∈ lay_Odds, ∀ t ∈ FT x.2, 4 ≤ x.1 → t.1 ≠ 2 := by decide
    exact h1 _ (List.mem_of_getElem? hk) t (List.mem_of_getElem? ht) (Nat.le_add_left 4 a) h2
set_option maxHeartbeats 4000000 in
set_option maxRecDepth 20000 in
theorem ini_c_Odds {l : Launch} : Ini l y_Odds_init k_Odds_init 1 1 12 2 37 3 lay_Odds hi_Odds := by
  refine ini_of (by decide) rfl (by decide) hr_Odds (fun D cA q0 A Y I => ?_)
  show Y [(q0, .inr (3, [.null, .int 0, .long 0, .null, .long 0, .int 0, .long 0, .long 0, .long 0]))] 0 0 0 [(0, .ref q0)] []
  refine i_s I (s_raload_n (pc' := 1) 0 rfl D_Odds_init_0.1.1.1.1 rfl rfl) ?_
  refine i_obj (pc' := 4) I ml_Odds_3 (Nat.le_of_ble_eq_true rfl) (Nat.le_of_ble_eq_true rfl) D_Odds_init_0.1.1.1.2 rfl ?_
  refine i_s I (s_raload_n (pc' := 5) 0 rfl D_Odds_init_0.1.1.2.1 rfl rfl) ?_
  refine i_s I (s_iconst (pc' := 6) D_Odds_init_0.1.1.2.2 rfl) ?_
  refine i_newa (pc' := 8) (cl' := 1) (sl' := 4) (t := 0) (n := 4) (ty := .int) I w_arrayClass_1123 rfl rfl (fun c => rfl) (inR_c rfl) rfl (Nat.le_of_ble_eq_true rfl) (Nat.le_of_ble_eq_true rfl) (Nat.le_of_ble_eq_true rfl) D_Odds_init_0.1.2.1.1 rfl rfl rfl (fun q1 => ?_)
  show Y ([(q0, .inr (3, [.null, (.int 0), (.long 0), .null, (.long 0), (.int 0), (.long 0), (.long 0), (.long 0)])), (q1, .inl (cA 0, zarr 0 4))]) 1 4 8 [(0, .ref q0)] [.ref q1, .ref q0]
  refine i_put (pc' := 11) (fs' := [(.ref q1), (.int 0), (.long 0), .null, (.long 0), (.int 0), (.long 0), (.long 0), (.long 0)]) I pq_Odds_9 rfl (Nat.le_of_ble_eq_true rfl) rfl rfl D_Odds_init_0.1.2.1.2 rfl ?_
  refine i_s I (s_raload_n (pc' := 12) 0 rfl D_Odds_init_0.1.2.2.1 rfl rfl) ?_
  refine i_s I (s_iconst (pc' := 13) D_Odds_init_0.1.2.2.2 rfl) ?_
  refine i_put (pc' := 16) (fs' := [(.ref q1), (vI 0), (.long 0), .null, (.long 0), (.int 0), (.long 0), (.long 0), (.long 0)]) I pq_Odds_15 rfl (Nat.le_of_ble_eq_true rfl) rfl rfl D_Odds_init_0.2.1.1.1 rfl ?_
  refine i_s I (s_raload_n (pc' := 17) 0 rfl D_Odds_init_0.2.1.1.2 rfl rfl) ?_
  refine i_s I (s_lconst (pc' := 18) (x := 0) D_Odds_init_0.2.1.2.1 rfl rfl) ?_
  refine i_put (pc' := 21) (fs' := [(.ref q1), (vI 0), (vL 0), .null, (.long 0), (.int 0), (.long 0), (.long 0), (.long 0)]) I pq_Odds_19 rfl (Nat.le_of_ble_eq_true rfl) rfl rfl D_Odds_init_0.2.1.2.2 rfl ?_
  refine i_s I (s_raload_n (pc' := 22) 0 rfl D_Odds_init_0.2.2.1.1 rfl rfl) ?_
  refine i_s I (s_bipush (pc' := 24) D_Odds_init_0.2.2.1.2 rfl rfl) ?_
  refine i_newa (pc' := 26) (cl' := 2) (sl' := 37) (t := 1) (n := 33) (ty := .long) I w_arrayClass_1179 rfl rfl (fun c => rfl) (inR_c rfl) rfl (Nat.le_of_ble_eq_true rfl) (Nat.le_of_ble_eq_true rfl) (Nat.le_of_ble_eq_true rfl) D_Odds_init_0.2.2.2.1 rfl rfl rfl (fun q2 => ?_)
  show Y ([(q0, .inr (3, [(.ref q1), (vI 0), (vL 0), .null, (.long 0), (.int 0), (.long 0), (.long 0), (.long 0)])), (q1, .inl (cA 0, zarr 0 4)), (q2, .inl (cA 1, zarr 1 33))]) 2 37 26 [(0, .ref q0)] [.ref q2, .ref q0]
  refine i_put (pc' := 29) (fs' := [(.ref q1), (vI 0), (vL 0), (.ref q2), (.long 0), (.int 0), (.long 0), (.long 0), (.long 0)]) I pq_Odds_23 rfl (Nat.le_of_ble_eq_true rfl) rfl rfl D_Odds_init_0.2.2.2.2 rfl ?_
  refine i_s I (s_raload_n (pc' := 30) 0 rfl D_Odds_init_1.1.1.1.1 rfl rfl) ?_
  refine i_s I (s_lconst (pc' := 31) (x := 1) D_Odds_init_1.1.1.1.2 rfl rfl) ?_
  refine i_put (pc' := 34) (fs' := [(.ref q1), (vI 0), (vL 0), (.ref q2), (vL 1), (.int 0), (.long 0), (.long 0), (.long 0)]) I pq_Odds_27 rfl (Nat.le_of_ble_eq_true rfl) rfl rfl D_Odds_init_1.1.1.2.1 rfl ?_
  refine i_s I (s_raload_n (pc' := 35) 0 rfl D_Odds_init_1.1.1.2.2 rfl rfl) ?_
  refine i_s I (s_iconst (pc' := 36) D_Odds_init_1.1.2.1.1 rfl) ?_
  refine i_put (pc' := 39) (fs' := [(.ref q1), (vI 0), (vL 0), (.ref q2), (vL 1), (vI 0), (.long 0), (.long 0), (.long 0)]) I pq_Odds_30 rfl (Nat.le_of_ble_eq_true rfl) rfl rfl D_Odds_init_1.1.2.1.2 rfl ?_
  refine i_s I (s_raload_n (pc' := 40) 0 rfl D_Odds_init_1.1.2.2.1 rfl rfl) ?_
  refine i_s I (s_lconst (pc' := 41) (x := 0) D_Odds_init_1.1.2.2.2 rfl rfl) ?_
  refine i_put (pc' := 44) (fs' := [(.ref q1), (vI 0), (vL 0), (.ref q2), (vL 1), (vI 0), (vL 0), (.long 0), (.long 0)]) I pq_Odds_33 rfl (Nat.le_of_ble_eq_true rfl) rfl rfl D_Odds_init_1.2.1.1.1 rfl ?_
  refine i_s I (s_raload_n (pc' := 45) 0 rfl D_Odds_init_1.2.1.1.2 rfl rfl) ?_
  refine i_s I (s_lconst (pc' := 46) (x := 0) D_Odds_init_1.2.1.2.1 rfl rfl) ?_
  refine i_put (pc' := 49) (fs' := [(.ref q1), (vI 0), (vL 0), (.ref q2), (vL 1), (vI 0), (vL 0), (vL 0), (.long 0)]) I pq_Odds_36 rfl (Nat.le_of_ble_eq_true rfl) rfl rfl D_Odds_init_1.2.1.2.2 rfl ?_
  refine i_s I (s_raload_n (pc' := 50) 0 rfl D_Odds_init_1.2.2.1.1 rfl rfl) ?_
  refine i_s I (s_lconst (pc' := 51) (x := 1) D_Odds_init_1.2.2.1.2 rfl rfl) ?_
  refine i_put (pc' := 54) (fs' := [(.ref q1), (vI 0), (vL 0), (.ref q2), (vL 1), (vI 0), (vL 0), (vL 0), (vL 1)]) I pq_Odds_39 rfl (Nat.le_of_ble_eq_true rfl) rfl rfl D_Odds_init_1.2.2.2.1 rfl ?_
  exact i_ret I ⟨fun k => [q0, q1, q2].getD k 0, rfl, fun H hP hD => ⟨hP, hD⟩⟩ D_Odds_init_1.2.2.2.2
theorem hr_Ratio : hr lay_Ratio hi_Ratio := by
  refine hr_small (fun p j => ?_) (fun k n hk j hj => ?_) (fun k a ci hk j t ht h2 => ?_)
  · unfold hi_Ratio inR
    (repeat' split) <;> omega
  · exfalso
    have h1 : ∀ x ∈ lay_Ratio, x.1 ≠ 2 := by decide
    exact h1 _ (List.mem_of_getElem? hk) rfl
  · exfalso
    have h1 : ∀ x ∈ lay_Ratio, ∀ t ∈ FT x.2, 4 ≤ x.1 → t.1 ≠ 2 := by decide
    exact h1 _ (List.mem_of_getElem? hk) t (List.mem_of_getElem? ht) (Nat.le_add_left 4 a) h2
set_option maxHeartbeats 4000000 in
set_option maxRecDepth 20000 in
theorem ini_c_Ratio {l : Launch} : Ini l y_Ratio_init k_Ratio_init 1 1 12 0 0 5 lay_Ratio hi_Ratio := by
  refine ini_of (by decide) rfl (by decide) hr_Ratio (fun D cA q0 A Y I => ?_)
  show Y [(q0, .inr (5, [.long 0, .long 0]))] 0 0 0 [(0, .ref q0)] []
  refine i_s I (s_raload_n (pc' := 1) 0 rfl D_Ratio_init_0.1.1.1 rfl rfl) ?_
  refine i_obj (pc' := 4) I ml_Ratio_1 (Nat.le_of_ble_eq_true rfl) (Nat.le_of_ble_eq_true rfl) D_Ratio_init_0.1.1.2 rfl ?_
  refine i_s I (s_raload_n (pc' := 5) 0 rfl D_Ratio_init_0.1.2.1 rfl rfl) ?_
  refine i_s I (s_lconst (pc' := 6) (x := 0) D_Ratio_init_0.1.2.2 rfl rfl) ?_
  refine i_put (pc' := 9) (fs' := [(vL 0), (.long 0)]) I pq_Ratio_7 rfl (Nat.le_of_ble_eq_true rfl) rfl rfl D_Ratio_init_0.2.1.1 rfl ?_
  refine i_s I (s_raload_n (pc' := 10) 0 rfl D_Ratio_init_0.2.1.2 rfl rfl) ?_
  refine i_s I (s_lconst (pc' := 11) (x := 1) D_Ratio_init_0.2.2.1 rfl rfl) ?_
  refine i_put (pc' := 14) (fs' := [(vL 0), (vL 1)]) I pq_Ratio_13 rfl (Nat.le_of_ble_eq_true rfl) rfl rfl D_Ratio_init_0.2.2.2.1 rfl ?_
  exact i_ret I ⟨fun k => [q0].getD k 0, rfl, fun H hP hD => ⟨hP, hD⟩⟩ D_Ratio_init_0.2.2.2.2
theorem hr_Seating : hr lay_Seating hi_Seating := by
  refine hr_small (fun p j => ?_) (fun k n hk j hj => ?_) (fun k a ci hk j t ht h2 => ?_)
  · unfold hi_Seating inR
    (repeat' split) <;> omega
  · exfalso
    have h1 : ∀ x ∈ lay_Seating, x.1 ≠ 2 := by decide
    exact h1 _ (List.mem_of_getElem? hk) rfl
  · exfalso
    have h1 : ∀ x ∈ lay_Seating, ∀ t ∈ FT x.2, 4 ≤ x.1 → t.1 ≠ 2 := by decide
    exact h1 _ (List.mem_of_getElem? hk) t (List.mem_of_getElem? ht) (Nat.le_add_left 4 a) h2
set_option maxHeartbeats 4000000 in
set_option maxRecDepth 20000 in
theorem ini_c_Seating {l : Launch} : Ini l y_Seating_init k_Seating_init 1 1 12 4 24 6 lay_Seating hi_Seating := by
  refine ini_of (by decide) rfl (by decide) hr_Seating (fun D cA q0 A Y I => ?_)
  show Y [(q0, .inr (6, [.int 0, .null, .null, .null, .null]))] 0 0 0 [(0, .ref q0)] []
  refine i_s I (s_raload_n (pc' := 1) 0 rfl D_Seating_init_0.1.1.1.1 rfl rfl) ?_
  refine i_obj (pc' := 4) I ml_Seating_1 (Nat.le_of_ble_eq_true rfl) (Nat.le_of_ble_eq_true rfl) D_Seating_init_0.1.1.1.2 rfl ?_
  refine i_s I (s_raload_n (pc' := 5) 0 rfl D_Seating_init_0.1.1.2.1 rfl rfl) ?_
  refine i_s I (s_iconst (pc' := 6) D_Seating_init_0.1.1.2.2 rfl) ?_
  refine i_put (pc' := 9) (fs' := [(vI 0), .null, .null, .null, .null]) I pq_Seating_7 rfl (Nat.le_of_ble_eq_true rfl) rfl rfl D_Seating_init_0.1.2.1.1 rfl ?_
  refine i_s I (s_raload_n (pc' := 10) 0 rfl D_Seating_init_0.1.2.1.2 rfl rfl) ?_
  refine i_s I (s_bipush (pc' := 12) D_Seating_init_0.1.2.2.1 rfl rfl) ?_
  refine i_newa (pc' := 14) (cl' := 1) (sl' := 6) (t := 0) (n := 6) (ty := .int) I w_arrayClass_1123 rfl rfl (fun c => rfl) (inR_c rfl) rfl (Nat.le_of_ble_eq_true rfl) (Nat.le_of_ble_eq_true rfl) (Nat.le_of_ble_eq_true rfl) D_Seating_init_0.1.2.2.2 rfl rfl rfl (fun q1 => ?_)
  show Y ([(q0, .inr (6, [(vI 0), .null, .null, .null, .null])), (q1, .inl (cA 0, zarr 0 6))]) 1 6 14 [(0, .ref q0)] [.ref q1, .ref q0]
  refine i_put (pc' := 17) (fs' := [(vI 0), (.ref q1), .null, .null, .null]) I pq_Seating_13 rfl (Nat.le_of_ble_eq_true rfl) rfl rfl D_Seating_init_0.2.1.1.1 rfl ?_
  refine i_s I (s_raload_n (pc' := 18) 0 rfl D_Seating_init_0.2.1.1.2 rfl rfl) ?_
  refine i_s I (s_bipush (pc' := 20) D_Seating_init_0.2.1.2.1 rfl rfl) ?_
  refine i_newa (pc' := 22) (cl' := 2) (sl' := 12) (t := 0) (n := 6) (ty := .int) I w_arrayClass_1123 rfl rfl (fun c => rfl) (inR_c rfl) rfl (Nat.le_of_ble_eq_true rfl) (Nat.le_of_ble_eq_true rfl) (Nat.le_of_ble_eq_true rfl) D_Seating_init_0.2.1.2.2 rfl rfl rfl (fun q2 => ?_)
  show Y ([(q0, .inr (6, [(vI 0), (.ref q1), .null, .null, .null])), (q1, .inl (cA 0, zarr 0 6)), (q2, .inl (cA 0, zarr 0 6))]) 2 12 22 [(0, .ref q0)] [.ref q2, .ref q0]
  refine i_put (pc' := 25) (fs' := [(vI 0), (.ref q1), (.ref q2), .null, .null]) I pq_Seating_17 rfl (Nat.le_of_ble_eq_true rfl) rfl rfl D_Seating_init_0.2.2.1.1 rfl ?_
  refine i_s I (s_raload_n (pc' := 26) 0 rfl D_Seating_init_0.2.2.1.2 rfl rfl) ?_
  refine i_s I (s_bipush (pc' := 28) D_Seating_init_0.2.2.2.1 rfl rfl) ?_
  refine i_newa (pc' := 30) (cl' := 3) (sl' := 18) (t := 0) (n := 6) (ty := .int) I w_arrayClass_1123 rfl rfl (fun c => rfl) (inR_c rfl) rfl (Nat.le_of_ble_eq_true rfl) (Nat.le_of_ble_eq_true rfl) (Nat.le_of_ble_eq_true rfl) D_Seating_init_0.2.2.2.2 rfl rfl rfl (fun q3 => ?_)
  show Y ([(q0, .inr (6, [(vI 0), (.ref q1), (.ref q2), .null, .null])), (q1, .inl (cA 0, zarr 0 6)), (q2, .inl (cA 0, zarr 0 6)), (q3, .inl (cA 0, zarr 0 6))]) 3 18 30 [(0, .ref q0)] [.ref q3, .ref q0]
  refine i_put (pc' := 33) (fs' := [(vI 0), (.ref q1), (.ref q2), (.ref q3), .null]) I pq_Seating_20 rfl (Nat.le_of_ble_eq_true rfl) rfl rfl D_Seating_init_1.1.1 rfl ?_
  refine i_s I (s_raload_n (pc' := 34) 0 rfl D_Seating_init_1.1.2.1 rfl rfl) ?_
  refine i_s I (s_bipush (pc' := 36) D_Seating_init_1.1.2.2 rfl rfl) ?_
  refine i_newa (pc' := 38) (cl' := 4) (sl' := 24) (t := 0) (n := 6) (ty := .int) I w_arrayClass_1123 rfl rfl (fun c => rfl) (inR_c rfl) rfl (Nat.le_of_ble_eq_true rfl) (Nat.le_of_ble_eq_true rfl) (Nat.le_of_ble_eq_true rfl) D_Seating_init_1.2.1 rfl rfl rfl (fun q4 => ?_)
  show Y ([(q0, .inr (6, [(vI 0), (.ref q1), (.ref q2), (.ref q3), .null])), (q1, .inl (cA 0, zarr 0 6)), (q2, .inl (cA 0, zarr 0 6)), (q3, .inl (cA 0, zarr 0 6)), (q4, .inl (cA 0, zarr 0 6))]) 4 24 38 [(0, .ref q0)] [.ref q4, .ref q0]
  refine i_put (pc' := 41) (fs' := [(vI 0), (.ref q1), (.ref q2), (.ref q3), (.ref q4)]) I pq_Seating_23 rfl (Nat.le_of_ble_eq_true rfl) rfl rfl D_Seating_init_1.2.2.1 rfl ?_
  exact i_ret I ⟨fun k => [q0, q1, q2, q3, q4].getD k 0, rfl, fun H hP hD => ⟨hP, hD⟩⟩ D_Seating_init_1.2.2.2
theorem hr_Tape : hr lay_Tape hi_Tape := by
  refine hr_small (fun p j => ?_) (fun k n hk j hj => ?_) (fun k a ci hk j t ht h2 => ?_)
  · unfold hi_Tape inR
    (repeat' split) <;> omega
  · exfalso
    have h1 : ∀ x ∈ lay_Tape, x.1 ≠ 2 := by decide
    exact h1 _ (List.mem_of_getElem? hk) rfl
  · exfalso
    have h1 : ∀ x ∈ lay_Tape, ∀ t ∈ FT x.2, 4 ≤ x.1 → t.1 ≠ 2 := by decide
    exact h1 _ (List.mem_of_getElem? hk) t (List.mem_of_getElem? ht) (Nat.le_add_left 4 a) h2
set_option maxHeartbeats 4000000 in
set_option maxRecDepth 20000 in
theorem ini_c_Tape {l : Launch} : Ini l y_Tape_init k_Tape_init 1 1 12 1 60 7 lay_Tape hi_Tape := by
  refine ini_of (by decide) rfl (by decide) hr_Tape (fun D cA q0 A Y I => ?_)
  show Y [(q0, .inr (7, [.int 0, .int 0, .null]))] 0 0 0 [(0, .ref q0)] []
  refine i_s I (s_raload_n (pc' := 1) 0 rfl D_Tape_init_0.1.1.1 rfl rfl) ?_
  refine i_obj (pc' := 4) I ml_Tape_1 (Nat.le_of_ble_eq_true rfl) (Nat.le_of_ble_eq_true rfl) D_Tape_init_0.1.1.2.1 rfl ?_
  refine i_s I (s_raload_n (pc' := 5) 0 rfl D_Tape_init_0.1.1.2.2 rfl rfl) ?_
  refine i_s I (s_iconst (pc' := 6) D_Tape_init_0.1.2.1 rfl) ?_
  refine i_put (pc' := 9) (fs' := [(vI (-1)), (.int 0), .null]) I pq_Tape_9 rfl (Nat.le_of_ble_eq_true rfl) rfl rfl D_Tape_init_0.1.2.2.1 rfl ?_
  refine i_s I (s_raload_n (pc' := 10) 0 rfl D_Tape_init_0.1.2.2.2 rfl rfl) ?_
  refine i_s I (s_iconst (pc' := 11) D_Tape_init_0.2.1.1 rfl) ?_
  refine i_put (pc' := 14) (fs' := [(vI (-1)), (vI 0), .null]) I pq_Tape_13 rfl (Nat.le_of_ble_eq_true rfl) rfl rfl D_Tape_init_0.2.1.2.1 rfl ?_
  refine i_s I (s_raload_n (pc' := 15) 0 rfl D_Tape_init_0.2.1.2.2 rfl rfl) ?_
  refine i_s I (s_bipush (pc' := 17) D_Tape_init_0.2.2.1.1 rfl rfl) ?_
  refine i_newa (pc' := 19) (cl' := 1) (sl' := 60) (t := 1) (n := 60) (ty := .long) I w_arrayClass_1179 rfl rfl (fun c => rfl) (inR_c rfl) rfl (Nat.le_of_ble_eq_true rfl) (Nat.le_of_ble_eq_true rfl) (Nat.le_of_ble_eq_true rfl) D_Tape_init_0.2.2.1.2 rfl rfl rfl (fun q1 => ?_)
  show Y ([(q0, .inr (7, [(vI (-1)), (vI 0), .null])), (q1, .inl (cA 1, zarr 1 60))]) 1 60 19 [(0, .ref q0)] [.ref q1, .ref q0]
  refine i_put (pc' := 22) (fs' := [(vI (-1)), (vI 0), (.ref q1)]) I pq_Tape_16 rfl (Nat.le_of_ble_eq_true rfl) rfl rfl D_Tape_init_0.2.2.2.1 rfl ?_
  exact i_ret I ⟨fun k => [q0, q1].getD k 0, rfl, fun H hP hD => ⟨hP, hD⟩⟩ D_Tape_init_0.2.2.2.2
theorem hr_Text : hr lay_Text hi_Text := by
  refine hr_small (fun p j => ?_) (fun k n hk j hj => ?_) (fun k a ci hk j t ht h2 => ?_)
  · unfold hi_Text inR
    (repeat' split) <;> omega
  · exfalso
    have h1 : ∀ x ∈ lay_Text, x.1 ≠ 2 := by decide
    exact h1 _ (List.mem_of_getElem? hk) rfl
  · exfalso
    have h1 : ∀ x ∈ lay_Text, ∀ t ∈ FT x.2, 4 ≤ x.1 → t.1 ≠ 2 := by decide
    exact h1 _ (List.mem_of_getElem? hk) t (List.mem_of_getElem? ht) (Nat.le_add_left 4 a) h2
set_option maxHeartbeats 4000000 in
set_option maxRecDepth 20000 in
theorem ini_c_Text {l : Launch} : Ini l y_Text_init k_Text_init 1 1 12 1 60 8 lay_Text hi_Text := by
  refine ini_of (by decide) rfl (by decide) hr_Text (fun D cA q0 A Y I => ?_)
  show Y [(q0, .inr (8, [.int 0, .null]))] 0 0 0 [(0, .ref q0)] []
  refine i_s I (s_raload_n (pc' := 1) 0 rfl D_Text_init_0.1.1.1 rfl rfl) ?_
  refine i_obj (pc' := 4) I ml_Text_3 (Nat.le_of_ble_eq_true rfl) (Nat.le_of_ble_eq_true rfl) D_Text_init_0.1.1.2 rfl ?_
  refine i_s I (s_raload_n (pc' := 5) 0 rfl D_Text_init_0.1.2.1 rfl rfl) ?_
  refine i_s I (s_iconst (pc' := 6) D_Text_init_0.1.2.2.1 rfl) ?_
  refine i_put (pc' := 9) (fs' := [(vI 0), .null]) I pq_Text_9 rfl (Nat.le_of_ble_eq_true rfl) rfl rfl D_Text_init_0.1.2.2.2 rfl ?_
  refine i_s I (s_raload_n (pc' := 10) 0 rfl D_Text_init_0.2.1.1 rfl rfl) ?_
  refine i_s I (s_bipush (pc' := 12) D_Text_init_0.2.1.2 rfl rfl) ?_
  refine i_newa (pc' := 14) (cl' := 1) (sl' := 60) (t := 0) (n := 60) (ty := .int) I w_arrayClass_1123 rfl rfl (fun c => rfl) (inR_c rfl) rfl (Nat.le_of_ble_eq_true rfl) (Nat.le_of_ble_eq_true rfl) (Nat.le_of_ble_eq_true rfl) D_Text_init_0.2.2.1 rfl rfl rfl (fun q1 => ?_)
  show Y ([(q0, .inr (8, [(vI 0), .null])), (q1, .inl (cA 0, zarr 0 60))]) 1 60 14 [(0, .ref q0)] [.ref q1, .ref q0]
  refine i_put (pc' := 17) (fs' := [(vI 0), (.ref q1)]) I pq_Text_15 rfl (Nat.le_of_ble_eq_true rfl) rfl rfl D_Text_init_0.2.2.2.1 rfl ?_
  exact i_ret I ⟨fun k => [q0, q1].getD k 0, rfl, fun H hP hD => ⟨hP, hD⟩⟩ D_Text_init_0.2.2.2.2
theorem hr_Ranking : hr lay_Ranking hi_Ranking := by
  refine hr_small (fun p j => ?_) (fun k n hk j hj => ?_) (fun k a ci hk j t ht h2 => ?_)
  · unfold hi_Ranking inR
    (repeat' split) <;> omega
  · exfalso
    have h1 : ∀ x ∈ lay_Ranking, x.1 ≠ 2 := by decide
    exact h1 _ (List.mem_of_getElem? hk) rfl
  · exfalso
    have h1 : ∀ x ∈ lay_Ranking, ∀ t ∈ FT x.2, 4 ≤ x.1 → t.1 ≠ 2 := by decide
    exact h1 _ (List.mem_of_getElem? hk) t (List.mem_of_getElem? ht) (Nat.le_add_left 4 a) h2
set_option maxHeartbeats 4000000 in
set_option maxRecDepth 20000 in
theorem ini_c_Ranking {l : Launch} : Ini l y_Ranking_init k_Ranking_init 1 2 32 6 116 4 lay_Ranking hi_Ranking := by
  refine ini_of (by decide) rfl (by decide) hr_Ranking (fun D cA q0 A Y I => ?_)
  show Y [(q0, .inr (4, [.int 0, .int 0, .null, .null, .null, .null, .null, .null]))] 0 0 0 [(0, .ref q0)] []
  refine i_s I (s_raload_n (pc' := 1) 0 rfl D_Ranking_init_0.1.1.1.1 rfl rfl) ?_
  refine i_obj (pc' := 4) I ml_Ranking_3 (Nat.le_of_ble_eq_true rfl) (Nat.le_of_ble_eq_true rfl) D_Ranking_init_0.1.1.1.2 rfl ?_
  refine i_s I (s_raload_n (pc' := 5) 0 rfl D_Ranking_init_0.1.1.2.1 rfl rfl) ?_
  refine i_s I (s_iconst (pc' := 6) D_Ranking_init_0.1.1.2.2 rfl) ?_
  refine i_put (pc' := 9) (fs' := [(vI 0), (.int 0), .null, .null, .null, .null, .null, .null]) I pq_Ranking_9 rfl (Nat.le_of_ble_eq_true rfl) rfl rfl D_Ranking_init_0.1.2.1.1 rfl ?_
  refine i_s I (s_raload_n (pc' := 10) 0 rfl D_Ranking_init_0.1.2.1.2 rfl rfl) ?_
  refine i_s I (s_iconst (pc' := 11) D_Ranking_init_0.1.2.2.1 rfl) ?_
  refine i_put (pc' := 14) (fs' := [(vI 0), (vI 0), .null, .null, .null, .null, .null, .null]) I pq_Ranking_15 rfl (Nat.le_of_ble_eq_true rfl) rfl rfl D_Ranking_init_0.1.2.2.2 rfl ?_
  refine i_s I (s_raload_n (pc' := 15) 0 rfl D_Ranking_init_0.2.1.1.1 rfl rfl) ?_
  refine i_s I (s_bipush (pc' := 17) D_Ranking_init_0.2.1.1.2 rfl rfl) ?_
  refine i_newa (pc' := 19) (cl' := 1) (sl' := 28) (t := 0) (n := 28) (ty := .int) I w_arrayClass_1123 rfl rfl (fun c => rfl) (inR_c rfl) rfl (Nat.le_of_ble_eq_true rfl) (Nat.le_of_ble_eq_true rfl) (Nat.le_of_ble_eq_true rfl) D_Ranking_init_0.2.1.2.1 rfl rfl rfl (fun q1 => ?_)
  show Y ([(q0, .inr (4, [(vI 0), (vI 0), .null, .null, .null, .null, .null, .null])), (q1, .inl (cA 0, zarr 0 28))]) 1 28 19 [(0, .ref q0)] [.ref q1, .ref q0]
  refine i_put (pc' := 22) (fs' := [(vI 0), (vI 0), (.ref q1), .null, .null, .null, .null, .null]) I pq_Ranking_18 rfl (Nat.le_of_ble_eq_true rfl) rfl rfl D_Ranking_init_0.2.1.2.2 rfl ?_
  refine i_s I (s_raload_n (pc' := 23) 0 rfl D_Ranking_init_0.2.2.1.1 rfl rfl) ?_
  refine i_s I (s_bipush (pc' := 25) D_Ranking_init_0.2.2.1.2 rfl rfl) ?_
  refine i_newa (pc' := 27) (cl' := 2) (sl' := 56) (t := 0) (n := 28) (ty := .int) I w_arrayClass_1123 rfl rfl (fun c => rfl) (inR_c rfl) rfl (Nat.le_of_ble_eq_true rfl) (Nat.le_of_ble_eq_true rfl) (Nat.le_of_ble_eq_true rfl) D_Ranking_init_0.2.2.2.1 rfl rfl rfl (fun q2 => ?_)
  show Y ([(q0, .inr (4, [(vI 0), (vI 0), (.ref q1), .null, .null, .null, .null, .null])), (q1, .inl (cA 0, zarr 0 28)), (q2, .inl (cA 0, zarr 0 28))]) 2 56 27 [(0, .ref q0)] [.ref q2, .ref q0]
  refine i_put (pc' := 30) (fs' := [(vI 0), (vI 0), (.ref q1), (.ref q2), .null, .null, .null, .null]) I pq_Ranking_22 rfl (Nat.le_of_ble_eq_true rfl) rfl rfl D_Ranking_init_0.2.2.2.2 rfl ?_
  refine i_s I (s_raload_n (pc' := 31) 0 rfl D_Ranking_init_1.1.1.1.1 rfl rfl) ?_
  refine i_s I (s_bipush (pc' := 33) D_Ranking_init_1.1.1.1.2 rfl rfl) ?_
  refine i_newa (pc' := 35) (cl' := 3) (sl' := 84) (t := 1) (n := 28) (ty := .long) I w_arrayClass_1179 rfl rfl (fun c => rfl) (inR_c rfl) rfl (Nat.le_of_ble_eq_true rfl) (Nat.le_of_ble_eq_true rfl) (Nat.le_of_ble_eq_true rfl) D_Ranking_init_1.1.1.2.1 rfl rfl rfl (fun q3 => ?_)
  show Y ([(q0, .inr (4, [(vI 0), (vI 0), (.ref q1), (.ref q2), .null, .null, .null, .null])), (q1, .inl (cA 0, zarr 0 28)), (q2, .inl (cA 0, zarr 0 28)), (q3, .inl (cA 1, zarr 1 28))]) 3 84 35 [(0, .ref q0)] [.ref q3, .ref q0]
  refine i_put (pc' := 38) (fs' := [(vI 0), (vI 0), (.ref q1), (.ref q2), (.ref q3), .null, .null, .null]) I pq_Ranking_25 rfl (Nat.le_of_ble_eq_true rfl) rfl rfl D_Ranking_init_1.1.1.2.2 rfl ?_
  refine i_s I (s_raload_n (pc' := 39) 0 rfl D_Ranking_init_1.1.2.1.1 rfl rfl) ?_
  refine i_s I (s_bipush (pc' := 41) D_Ranking_init_1.1.2.1.2 rfl rfl) ?_
  refine i_newa (pc' := 43) (cl' := 4) (sl' := 112) (t := 1) (n := 28) (ty := .long) I w_arrayClass_1179 rfl rfl (fun c => rfl) (inR_c rfl) rfl (Nat.le_of_ble_eq_true rfl) (Nat.le_of_ble_eq_true rfl) (Nat.le_of_ble_eq_true rfl) D_Ranking_init_1.1.2.2.1 rfl rfl rfl (fun q4 => ?_)
  show Y ([(q0, .inr (4, [(vI 0), (vI 0), (.ref q1), (.ref q2), (.ref q3), .null, .null, .null])), (q1, .inl (cA 0, zarr 0 28)), (q2, .inl (cA 0, zarr 0 28)), (q3, .inl (cA 1, zarr 1 28)), (q4, .inl (cA 1, zarr 1 28))]) 4 112 43 [(0, .ref q0)] [.ref q4, .ref q0]
  refine i_put (pc' := 46) (fs' := [(vI 0), (vI 0), (.ref q1), (.ref q2), (.ref q3), (.ref q4), .null, .null]) I pq_Ranking_29 rfl (Nat.le_of_ble_eq_true rfl) rfl rfl D_Ranking_init_1.1.2.2.2 rfl ?_
  refine i_s I (s_raload_n (pc' := 47) 0 rfl D_Ranking_init_1.2.1.1.1 rfl rfl) ?_
  refine i_new (pc' := 50) (cl' := 5) (sl' := 114) I t_Ratio (ci := 5) rfl i_Ratio t_Ratio_ok xl_Ranking_32 (by decide +kernel) ini_Ratio (fun j hj => by match j, hj with | 0, _ => rfl | 1, _ => rfl) (Nat.le_of_ble_eq_true rfl) (Nat.le_of_ble_eq_true rfl) D_Ranking_init_1.2.1.1.2 rfl rfl rfl (fun q5 => ?_)
  show Y ([(q0, .inr (4, [(vI 0), (vI 0), (.ref q1), (.ref q2), (.ref q3), (.ref q4), .null, .null])), (q1, .inl (cA 0, zarr 0 28)), (q2, .inl (cA 0, zarr 0 28)), (q3, .inl (cA 1, zarr 1 28)), (q4, .inl (cA 1, zarr 1 28)), (q5, .inr (5, nul 5))]) 5 114 50 [(0, .ref q0)] [.ref q5, .ref q0]
  refine i_s I (s_dup (pc' := 51) rfl D_Ranking_init_1.2.1.2.1 rfl) ?_
  show Y ([(q0, .inr (4, [(vI 0), (vI 0), (.ref q1), (.ref q2), (.ref q3), (.ref q4), .null, .null])), (q1, .inl (cA 0, zarr 0 28)), (q2, .inl (cA 0, zarr 0 28)), (q3, .inl (cA 1, zarr 1 28)), (q4, .inl (cA 1, zarr 1 28))] ++ [(q5, .inr (5, nul 5))]) 5 114 51 _ _
  refine i_call (pc' := 54) (cl' := 5) (sl' := 114) I ini_c_Ratio co_Ratio_init im_Ratio_init ini_Ratio (by decide +kernel) (Or.inr (by decide +kernel)) ⟨Nat.le_of_ble_eq_true rfl, Nat.le_of_ble_eq_true rfl⟩ (Nat.le_of_ble_eq_true rfl) (Nat.le_of_ble_eq_true rfl) (Nat.le_of_ble_eq_true rfl) D_Ranking_init_1.2.1.2.2 rfl rfl rfl (fun ad6 had6 gad6 => ?_)
  subst had6
  show Y ([(q0, .inr (4, [(vI 0), (vI 0), (.ref q1), (.ref q2), (.ref q3), (.ref q4), .null, .null])), (q1, .inl (cA 0, zarr 0 28)), (q2, .inl (cA 0, zarr 0 28)), (q3, .inl (cA 1, zarr 1 28)), (q4, .inl (cA 1, zarr 1 28)), (ad6 0, ent ad6 cA hi_Ratio 0 (4, 5))]) 5 114 54 [(0, .ref q0)] [.ref (ad6 0), .ref q0]
  refine i_put (pc' := 57) (fs' := [(vI 0), (vI 0), (.ref q1), (.ref q2), (.ref q3), (.ref q4), (.ref (ad6 0)), .null]) I pq_Ranking_35 rfl (Nat.le_of_ble_eq_true rfl) rfl rfl D_Ranking_init_1.2.2.1.1 rfl ?_
  refine i_s I (s_raload_n (pc' := 58) 0 rfl D_Ranking_init_1.2.2.1.2 rfl rfl) ?_
  refine i_new (pc' := 61) (cl' := 6) (sl' := 116) I t_Ratio (ci := 5) rfl i_Ratio t_Ratio_ok xl_Ranking_32 (by decide +kernel) ini_Ratio (fun j hj => by match j, hj with | 0, _ => rfl | 1, _ => rfl) (Nat.le_of_ble_eq_true rfl) (Nat.le_of_ble_eq_true rfl) D_Ranking_init_1.2.2.2.1 rfl rfl rfl (fun q7 => ?_)
  show Y ([(q0, .inr (4, [(vI 0), (vI 0), (.ref q1), (.ref q2), (.ref q3), (.ref q4), (.ref (ad6 0)), .null])), (q1, .inl (cA 0, zarr 0 28)), (q2, .inl (cA 0, zarr 0 28)), (q3, .inl (cA 1, zarr 1 28)), (q4, .inl (cA 1, zarr 1 28)), (ad6 0, ent ad6 cA hi_Ratio 0 (4, 5)), (q7, .inr (5, nul 5))]) 6 116 61 [(0, .ref q0)] [.ref q7, .ref q0]
  refine i_s I (s_dup (pc' := 62) rfl D_Ranking_init_1.2.2.2.2 rfl) ?_
  show Y ([(q0, .inr (4, [(vI 0), (vI 0), (.ref q1), (.ref q2), (.ref q3), (.ref q4), (.ref (ad6 0)), .null])), (q1, .inl (cA 0, zarr 0 28)), (q2, .inl (cA 0, zarr 0 28)), (q3, .inl (cA 1, zarr 1 28)), (q4, .inl (cA 1, zarr 1 28)), (ad6 0, ent ad6 cA hi_Ratio 0 (4, 5))] ++ [(q7, .inr (5, nul 5))]) 6 116 62 _ _
  refine i_call (pc' := 65) (cl' := 6) (sl' := 116) I ini_c_Ratio co_Ratio_init im_Ratio_init ini_Ratio (by decide +kernel) (Or.inr (by decide +kernel)) ⟨Nat.le_of_ble_eq_true rfl, Nat.le_of_ble_eq_true rfl⟩ (Nat.le_of_ble_eq_true rfl) (Nat.le_of_ble_eq_true rfl) (Nat.le_of_ble_eq_true rfl) D_Ranking_init_2.1 rfl rfl rfl (fun ad8 had8 gad8 => ?_)
  subst had8
  show Y ([(q0, .inr (4, [(vI 0), (vI 0), (.ref q1), (.ref q2), (.ref q3), (.ref q4), (.ref (ad6 0)), .null])), (q1, .inl (cA 0, zarr 0 28)), (q2, .inl (cA 0, zarr 0 28)), (q3, .inl (cA 1, zarr 1 28)), (q4, .inl (cA 1, zarr 1 28)), (ad6 0, ent ad6 cA hi_Ratio 0 (4, 5)), (ad8 0, ent ad8 cA hi_Ratio 0 (4, 5))]) 6 116 65 [(0, .ref q0)] [.ref (ad8 0), .ref q0]
  refine i_put (pc' := 68) (fs' := [(vI 0), (vI 0), (.ref q1), (.ref q2), (.ref q3), (.ref q4), (.ref (ad6 0)), (.ref (ad8 0))]) I pq_Ranking_39 rfl (Nat.le_of_ble_eq_true rfl) rfl rfl D_Ranking_init_2.2.1 rfl ?_
  exact i_ret I ⟨fun k => [q0, q1, q2, q3, q4, ad6 0, ad8 0].getD k 0, rfl, fun H hP hD => ⟨hP, hD⟩⟩ D_Ranking_init_2.2.2
