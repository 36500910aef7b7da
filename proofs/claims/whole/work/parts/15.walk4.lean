set_option maxHeartbeats 4000000 in
set_option maxRecDepth 20000 in
theorem c_Md_clause {l : Launch} {τ : TP} {o : Int} {x1 : Int} {h : HP} {h' : HP} (hw : wf τ) (ao : ok τ (4, 10) o) (ax1 : b01 x1) (hh : hr τ h) (hF : m_Md_clause o x1 h = some h') : Ctr l y_Md_clause k_Md_clause 4 (Option.none : Option FieldType) 2 46 τ (fun ad => [vR ad o, vI x1]) h none h' (True) := by
  refine ctr_of (by decide) hw hh (fun ad => Nat.le_of_ble_eq_true rfl) (fun ad K Y I hK => ?_)
  obtain ⟨G0, hG0⟩ : ∃ G : HP → Prop, G = fun x => x = h' := ⟨_, rfl⟩
  have gk0 : ∀ (x : HP), G0 x → K none x := fun x g => by
    rw [hG0] at g
    cases g
    exact hK trivial
  have J129 : ∀ (s0 : Int) (as0 : ok τ (4, 10) s0) (s1 : Int) (as1 : b01 s1) (h : HP), Z Y (m_Md_clause_J129 o s0 s1 h) G0 h 129 [(0, vR ad o)] [vI s1, vR ad s0] := by
    intro s0 as0 s1 as1 h
    unfold m_Md_clause_J129
    refine z_putB (pc' := 132) (jI := 24) I p_Md_182 as0 rfl rfl as1 D_Md_clause_4.1.2.2.2 rfl ?_
    refine z_bH (fun h1 e2 => ?_)
    refine z_s I (s_aload_n (pc' := 133) 0 rfl D_Md_clause_4.2.1.1 rfl rfl) ?_
    refine z_s I (s_dup (pc' := 134) rfl D_Md_clause_4.2.1.2.1 rfl) ?_
    refine z_getI (pc' := 137) (jI := 25) I g_Md_189 ao rfl rfl D_Md_clause_4.2.1.2.2 rfl (fun f3 => ?_)
    refine z_s I (s_iconst (pc' := 138) D_Md_clause_4.2.2.1.1 rfl) ?_
    refine z_s I (s_iadd (pc' := 139) D_Md_clause_4.2.2.1.2 rfl) ?_
    refine z_putI (pc' := 142) (jI := 25) I p_Md_189 ao rfl rfl (inR_w32 _) D_Md_clause_4.2.2.2.1 rfl ?_
    refine z_bH (fun h4 e5 => ?_)
    exact z_ret (w := none) I (fun g => gk0 _ g) rfl D_Md_clause_4.2.2.2.2 rfl
  have J119 : ∀ (x3 : Int) (ax3 : inR x3) (h : HP), Z Y (m_Md_clause_J119 o x3 h) G0 h 119 [(0, vR ad o), (3, vI x3)] [] := by
    intro x3 ax3 h
    unfold m_Md_clause_J119
    refine z_s I (s_aload_n (pc' := 120) 0 rfl D_Md_clause_4.1.1.1 rfl rfl) ?_
    refine z_s I (s_iload_n (pc' := 121) 1 rfl D_Md_clause_4.1.1.2.1 rfl rfl) ?_
    refine z_if_ne (tgt := 128) (pc' := 124) I ax3 D_Md_clause_4.1.1.2.2 rfl rfl (fun c6 => ?_) (fun c6 => ?_)
    · refine z_s I (s_iconst (pc' := 129) D_Md_clause_4.1.2.2.1 rfl) ?_
      refine z_s I (s_lv (lv' := [(0, vR ad o)]) [0] rfl) ?_
      exact J129 _ ao _ bz0 _
    · refine z_s I (s_iconst (pc' := 125) D_Md_clause_4.1.2.1.1 rfl) ?_
      refine z_s I (s_goto (tgt := 129) D_Md_clause_4.1.2.1.2 rfl) ?_
      refine z_s I (s_lv (lv' := [(0, vR ad o)]) [0] rfl) ?_
      exact J129 _ ao _ bz1 _
  have L34 : ∀ (x2 : Int) (ax2 : inR x2) (s : Int × HP), (inR (s.1)) → Z Y (m_Md_clause_L34 o x1 x2 s) G0 (s.2) 34 [(0, vR ad o), (1, vI x1), (2, vI x2), (3, vI (s.1))] [] := by
    intro x2 ax2 s hs
    refine z_loop (G := G0) (hO := fun s : Int × HP => s.2) (lO := fun s : Int × HP => [(0, vR ad o), (1, vI x1), (2, vI x2), (3, vI (s.1))]) (Φ := fun s : Int × HP => inR (s.1)) (fun G1 hin1_1 hout1 s hs => ?_) FUEL s hs
    obtain ⟨x3, h⟩ := s
    have ax3 := hs
    have gk1 := fun (x : HP) (g : G1 (.inr (x))) => gk0 x (hout1 _ g)
    have J103 : ∀ (x3 : Int) (ax3 : inR x3) (h : HP), Z Y (m_Md_clause_J103 o x1 x2 x3 h) G1 h 103 [(0, vR ad o), (1, vI x1), (2, vI x2), (3, vI x3)] [] := by
      intro x3 ax3 h
      unfold m_Md_clause_J103
      refine z_s I (s_iinc (pc' := 106) (lv' := [(3, vI (w32 (x3 + 1))), (0, vR ad o), (1, vI x1), (2, vI x2)]) (n := 3) rfl D_Md_clause_3.2.1.1.1 (by decide) rfl rfl) ?_
      refine z_s I (s_aload_n (pc' := 107) 1 rfl D_Md_clause_3.2.1.1.2 rfl rfl) ?_
      refine z_s I (s_dup (pc' := 108) rfl D_Md_clause_3.2.1.2.1 rfl) ?_
      refine z_getI (pc' := 111) (jI := 23) I g_Md_172 ao rfl rfl D_Md_clause_3.2.1.2.2 rfl (fun f7 => ?_)
      refine z_s I (s_iconst (pc' := 112) D_Md_clause_3.2.2.1.1 rfl) ?_
      refine z_s I (s_iadd (pc' := 113) D_Md_clause_3.2.2.1.2 rfl) ?_
      refine z_putI (pc' := 116) (jI := 23) I p_Md_172 ao rfl rfl (inR_w32 _) D_Md_clause_3.2.2.2.1 rfl ?_
      refine z_bH (fun h8 e9 => ?_)
      refine z_s I (s_goto (tgt := 34) D_Md_clause_3.2.2.2.2 rfl) ?_
      refine z_s I (s_lv (lv' := [(0, vR ad o), (1, vI x1), (2, vI x2), (3, vI (w32 (x3 + 1)))]) [1, 2, 3, 0] rfl) ?_
      exact z_end (fun g => hin1_1 _ g (inR_w32 _))
    have J102 : ∀ (x3 : Int) (ax3 : inR x3) (s0 : Int) (as0 : ok τ (0, 64) s0) (s1 : Int) (as1 : inR s1) (s2 : Int) (as2 : inR s2) (h : HP), Z Y (m_Md_clause_J102 o x1 x2 x3 s0 s1 s2 h) G1 h 102 [(0, vR ad o), (1, vI x1), (2, vI x2), (3, vI x3)] [vI s2, vI s1, vR ad s0] := by
      intro x3 ax3 s0 as0 s1 as1 s2 as2 h
      unfold m_Md_clause_J102
      refine z_iast (pc' := 103) (nI := 64) I as0 as1 as2 rfl D_Md_clause_3.1.2.2.2 rfl (fun c10 => ?_)
      refine z_bH (fun h11 e12 => ?_)
      exact J103 _ ax3 _
    have J68 : ∀ (x3 : Int) (ax3 : inR x3) (h : HP), Z Y (m_Md_clause_J68 o x1 x2 x3 h) G1 h 68 [(0, vR ad o), (1, vI x1), (2, vI x2), (3, vI x3)] [] := by
      intro x3 ax3 h
      unfold m_Md_clause_J68
      refine z_s I (s_iload_n (pc' := 69) 1 rfl D_Md_clause_2.1.2.1.1 rfl rfl) ?_
      refine z_if_eq (tgt := 103) (pc' := 72) I (b01.R ax1) D_Md_clause_2.1.2.1.2 rfl rfl (fun c13 => ?_) (fun c13 => ?_)
      · exact J103 _ ax3 _
      · refine z_s I (s_aload_n (pc' := 73) 0 rfl D_Md_clause_2.1.2.2.1 rfl rfl) ?_
        refine z_getR (pc' := 76) (eI := o + 4) I g_Md_25 ao rfl (by omega) D_Md_clause_2.1.2.2.2 rfl ?_
        have k14 : ok τ (0, 64) (o + 4) := r_Md_given hw ao (by omega)
        refine z_s I (s_bipush (pc' := 78) D_Md_clause_2.2.1.1.1 rfl rfl) ?_
        refine z_s I (s_iload_n (pc' := 79) 2 rfl D_Md_clause_2.2.1.1.2 rfl rfl) ?_
        refine z_s I (s_imul (pc' := 80) D_Md_clause_2.2.1.2.1 rfl) ?_
        refine z_s I (s_iload_n (pc' := 81) 3 rfl D_Md_clause_2.2.1.2.2 rfl rfl) ?_
        refine z_s I (s_iadd (pc' := 82) D_Md_clause_2.2.2.1.1 rfl) ?_
        refine z_s I (s_aload_n (pc' := 83) 0 rfl D_Md_clause_2.2.2.1.2 rfl rfl) ?_
        refine z_b1 (fun r17 q16 => ?_)
        refine z_callV (pc' := 86) I mv_Md_here ml_Md_178 (fun ad => []) ⟨Nat.le_of_ble_eq_true rfl, Nat.le_of_ble_eq_true rfl⟩ ao (fun hh => c_Md_here hw ao hh q16) rfl rfl (Nat.le_of_ble_eq_true rfl) D_Md_clause_2.2.2.2.1 rfl (fun f15 => ?_)
        refine z_s I (s_bipush (pc' := 88) D_Md_clause_2.2.2.2.2 rfl rfl) ?_
        refine z_icmp_ne (tgt := 95) (pc' := 91) I f15 (inR_c (x := 45) rfl) D_Md_clause_3.1.1.1.1 rfl rfl (fun c18 => ?_) (fun c18 => ?_)
        · refine z_s I (s_aload_n (pc' := 96) 0 rfl D_Md_clause_3.1.1.2.2 rfl rfl) ?_
          refine z_b1 (fun r21 q20 => ?_)
          refine z_callV (pc' := 99) I mv_Md_here ml_Md_178 (fun ad => []) ⟨Nat.le_of_ble_eq_true rfl, Nat.le_of_ble_eq_true rfl⟩ ao (fun hh => c_Md_here hw ao hh q20) rfl rfl (Nat.le_of_ble_eq_true rfl) D_Md_clause_3.1.2.1.1 rfl (fun f19 => ?_)
          refine z_s I (s_bipush (pc' := 101) D_Md_clause_3.1.2.1.2 rfl rfl) ?_
          refine z_s I (s_isub (pc' := 102) D_Md_clause_3.1.2.2.1 rfl) ?_
          exact J102 _ ax3 _ k14 _ (inR_w32 _) _ (inR_w32 _) _
        · refine z_s I (s_iconst (pc' := 92) D_Md_clause_3.1.1.1.2 rfl) ?_
          refine z_s I (s_goto (tgt := 102) D_Md_clause_3.1.1.2.1 rfl) ?_
          exact J102 _ ax3 _ k14 _ (inR_w32 _) _ (inR_c (x := (-1)) rfl) _
    show Z Y (m_Md_clause_L34b o x1 x2 x3 h) G1 h 34 [(0, vR ad o), (1, vI x1), (2, vI x2), (3, vI x3)] []
    unfold m_Md_clause_L34b
    refine z_s I (s_iload_n (pc' := 35) 3 rfl D_Md_clause_1.1.2.1.2 rfl rfl) ?_
    refine z_s I (s_aload_n (pc' := 36) 0 rfl D_Md_clause_1.1.2.2.1 rfl rfl) ?_
    refine z_getI (pc' := 39) (jI := 0) I g_Md_9 ao rfl rfl D_Md_clause_1.1.2.2.2 rfl (fun f22 => ?_)
    refine z_icmp_ge (tgt := 119) (pc' := 42) I ax3 f22 D_Md_clause_1.2.1.1.1 rfl rfl (fun c23 => ?_) (fun c23 => ?_)
    · refine z_map _ (fun x g => hout1 x g) ?_
      refine z_s I (s_lv (lv' := [(0, vR ad o), (3, vI x3)]) [0, 3] rfl) ?_
      exact J119 _ ax3 _
    · refine z_s I (s_aload_n (pc' := 43) 0 rfl D_Md_clause_1.2.1.1.2 rfl rfl) ?_
      refine z_b1 (fun r26 q25 => ?_)
      refine z_callV (pc' := 46) I mv_Md_here ml_Md_178 (fun ad => []) ⟨Nat.le_of_ble_eq_true rfl, Nat.le_of_ble_eq_true rfl⟩ ao (fun hh => c_Md_here hw ao hh q25) rfl rfl (Nat.le_of_ble_eq_true rfl) D_Md_clause_1.2.1.2.1 rfl (fun f24 => ?_)
      refine z_s I (s_bipush (pc' := 48) D_Md_clause_1.2.1.2.2 rfl rfl) ?_
      refine z_icmp_eq (tgt := 68) (pc' := 51) I f24 (inR_c (x := 45) rfl) D_Md_clause_1.2.2.1.1 rfl rfl (fun c27 => ?_) (fun c27 => ?_)
      · exact J68 _ ax3 _
      · refine z_s I (s_aload_n (pc' := 52) 0 rfl D_Md_clause_1.2.2.1.2 rfl rfl) ?_
        refine z_b1 (fun r30 q29 => ?_)
        refine z_callV (pc' := 55) I mv_Md_here ml_Md_178 (fun ad => []) ⟨Nat.le_of_ble_eq_true rfl, Nat.le_of_ble_eq_true rfl⟩ ao (fun hh => c_Md_here hw ao hh q29) rfl rfl (Nat.le_of_ble_eq_true rfl) D_Md_clause_1.2.2.2.1 rfl (fun f28 => ?_)
        refine z_s I (s_i2l (pc' := 56) f28 D_Md_clause_1.2.2.2.2 rfl) ?_
        refine z_ldc2 (pc' := 59) (x := 97) I cl_Md_185 (by decide +kernel) D_Md_clause_2.1.1.1.1 rfl ?_
        refine z_ldc2 (pc' := 62) (x := 100) I cl_Md_187 (by decide +kernel) D_Md_clause_2.1.1.1.2 rfl ?_
        refine z_b1 (fun r33 q32 => ?_)
        refine z_callS (pc' := 65) I mv_Md_in ml_Md_119 (fun ad => [vL r30, vL 97, vL 100]) ⟨Nat.le_of_ble_eq_true rfl, Nat.le_of_ble_eq_true rfl⟩ (fun hh => c_Md_in hw (f28).L (inL_c (x := 97) rfl) (inL_c (x := 100) rfl) hh q32) rfl rfl (Nat.le_of_ble_eq_true rfl) D_Md_clause_2.1.1.2.1 rfl (fun f31 => ?_)
        refine z_if_eq (tgt := 119) (pc' := 68) I (b01.R f31) D_Md_clause_2.1.1.2.2 rfl rfl (fun c34 => ?_) (fun c34 => ?_)
        · refine z_map _ (fun x g => hout1 x g) ?_
          refine z_s I (s_lv (lv' := [(0, vR ad o), (3, vI x3)]) [0, 3] rfl) ?_
          exact J119 _ ax3 _
        · exact J68 _ ax3 _
  have main : Z Y (m_Md_clause o x1 h) G0 h 0 [(0, vR ad o), (1, vI x1)] [] := by
    unfold m_Md_clause
    refine z_s I (s_aload_n (pc' := 1) 0 rfl D_Md_clause_0.1.1.1.1 rfl rfl) ?_
    refine z_b1 (fun r37 q36 => ?_)
    refine z_callV (pc' := 4) I mv_Md_here ml_Md_178 (fun ad => []) ⟨Nat.le_of_ble_eq_true rfl, Nat.le_of_ble_eq_true rfl⟩ ao (fun hh => c_Md_here hw ao hh q36) rfl rfl (Nat.le_of_ble_eq_true rfl) D_Md_clause_0.1.1.1.2 rfl (fun f35 => ?_)
    refine z_s I (s_bipush (pc' := 6) D_Md_clause_0.1.1.2.1 rfl rfl) ?_
    refine z_s I (s_isub (pc' := 7) D_Md_clause_0.1.1.2.2 rfl) ?_
    refine z_bI (inR_w32 _) (fun v38 e39 f40 => ?_)
    refine z_s I (s_istore_n (pc' := 8) (lv' := [(2, vI v38), (0, vR ad o), (1, vI x1)]) D_Md_clause_0.1.2.1.1 rfl (by decide) rfl rfl) ?_
    refine z_s I (s_aload_n (pc' := 9) 1 rfl D_Md_clause_0.1.2.1.2 rfl rfl) ?_
    refine z_s I (s_iload_n (pc' := 10) 0 rfl D_Md_clause_0.1.2.2.1 rfl rfl) ?_
    refine z_b1 (fun r43 q42 => ?_)
    refine z_callV (pc' := 13) I mv_Md_isOne ml_Md_126 (fun ad => [vI v38]) ⟨Nat.le_of_ble_eq_true rfl, Nat.le_of_ble_eq_true rfl⟩ ao (fun hh => c_Md_isOne hw ao f40 hh q42) rfl rfl (Nat.le_of_ble_eq_true rfl) D_Md_clause_0.1.2.2.2 rfl (fun f41 => ?_)
    refine z_if_ne (tgt := 22) (pc' := 16) I (b01.R f41) D_Md_clause_0.2.1.1.1 rfl rfl (fun c44 => ?_) (fun c44 => ?_)
    · refine z_s I (s_aload_n (pc' := 23) 1 rfl D_Md_clause_0.2.2.1.2 rfl rfl) ?_
      refine z_s I (s_dup (pc' := 24) rfl D_Md_clause_0.2.2.2.1 rfl) ?_
      refine z_getI (pc' := 27) (jI := 23) I g_Md_172 ao rfl rfl D_Md_clause_0.2.2.2.2 rfl (fun f45 => ?_)
      refine z_s I (s_iconst (pc' := 28) D_Md_clause_1.1.1.1.1 rfl) ?_
      refine z_s I (s_iadd (pc' := 29) D_Md_clause_1.1.1.1.2 rfl) ?_
      refine z_putI (pc' := 32) (jI := 23) I p_Md_172 ao rfl rfl (inR_w32 _) D_Md_clause_1.1.1.2.1 rfl ?_
      refine z_bH (fun h46 e47 => ?_)
      refine z_s I (s_iconst (pc' := 33) D_Md_clause_1.1.1.2.2 rfl) ?_
      refine z_s I (s_istore_n (pc' := 34) (lv' := [(3, vI 0), (2, vI v38), (0, vR ad o), (1, vI x1)]) D_Md_clause_1.1.2.1.1 rfl (by decide) rfl rfl) ?_
      refine z_s I (s_lv (lv' := [(0, vR ad o), (1, vI x1), (2, vI v38), (3, vI 0)]) [2, 3, 1, 0] rfl) ?_
      exact L34 _ f40 _ (b01.R bz0)
    · refine z_s I (s_aload_n (pc' := 17) 1 rfl D_Md_clause_0.2.1.1.2 rfl rfl) ?_
      refine z_s I (s_iconst (pc' := 18) D_Md_clause_0.2.1.2.1 rfl) ?_
      refine z_putB (pc' := 21) (jI := 24) I p_Md_182 ao rfl rfl bz1 D_Md_clause_0.2.1.2.2 rfl ?_
      refine z_bH (fun h48 e49 => ?_)
      exact z_ret (w := none) I (fun g => gk0 _ g) rfl D_Md_clause_0.2.2.1.1 rfl
  exact main _ hF (by rw [hG0])
set_option maxHeartbeats 4000000 in
set_option maxRecDepth 20000 in
theorem c_Md_goesThrough {l : Launch} {τ : TP} {o : Int} {x1 : Int} {h : HP} {h' : HP} (hw : wf τ) (ao : ok τ (4, 10) o) (ax1 : b01 x1) (hh : hr τ h) (hF : m_Md_goesThrough o x1 h = some h') : Ctr l y_Md_goesThrough k_Md_goesThrough 2 (Option.none : Option FieldType) 3 69 τ (fun ad => [vR ad o, vI x1]) h none h' (True) := by
  refine ctr_of (by decide) hw hh (fun ad => Nat.le_of_ble_eq_true rfl) (fun ad K Y I hK => ?_)
  obtain ⟨G0, hG0⟩ : ∃ G : HP → Prop, G = fun x => x = h' := ⟨_, rfl⟩
  have gk0 : ∀ (x : HP), G0 x → K none x := fun x g => by
    rw [hG0] at g
    cases g
    exact hK trivial
  have J55 : ∀ (h : HP), Z Y (m_Md_goesThrough_J55 o h) G0 h 55 [(0, vR ad o)] [] := by
    intro h
    unfold m_Md_goesThrough_J55
    refine z_s I (s_aload_n (pc' := 56) 0 rfl D_Md_goesThrough_1.2.2.1.1 rfl rfl) ?_
    refine z_s I (s_iconst (pc' := 57) D_Md_goesThrough_1.2.2.1.2 rfl) ?_
    refine z_putB (pc' := 60) (jI := 24) I p_Md_182 ao rfl rfl bz1 D_Md_goesThrough_1.2.2.2.1 rfl ?_
    refine z_bH (fun h1 e2 => ?_)
    exact z_ret (w := none) I (fun g => gk0 _ g) rfl D_Md_goesThrough_1.2.2.2.2 rfl
  have L20 : ∀ (s : HP), (True) → Z Y (m_Md_goesThrough_L20 o x1 s) G0 s 20 [(0, vR ad o), (1, vI x1)] [] := by
    intro s hs
    refine z_loop (G := G0) (hO := fun s : HP => s) (lO := fun s : HP => [(0, vR ad o), (1, vI x1)]) (Φ := fun s : HP => True) (fun G1 hin1_1 hout1 s hs => ?_) FUEL s hs
    obtain ⟨h, rfl⟩ : ∃ z, z = s := ⟨_, rfl⟩
    have gk1 := fun (x : HP) (g : G1 (.inr (x))) => gk0 x (hout1 _ g)
    show Z Y (m_Md_goesThrough_L20b o x1 h) G1 h 20 [(0, vR ad o), (1, vI x1)] []
    unfold m_Md_goesThrough_L20b
    refine z_s I (s_aload_n (pc' := 21) 0 rfl D_Md_goesThrough_0.2.2.1.1 rfl rfl) ?_
    refine z_getB (pc' := 24) (jI := 24) I g_Md_182 ao rfl rfl D_Md_goesThrough_0.2.2.1.2 rfl (fun f3 => ?_)
    refine z_if_ne (tgt := 79) (pc' := 27) I (b01.R f3) D_Md_goesThrough_0.2.2.2.1 rfl rfl (fun c4 => ?_) (fun c4 => ?_)
    · exact z_ret (w := none) I (fun g => gk1 _ g) rfl D_Md_goesThrough_2.2.2.2.2 rfl
    · refine z_s I (s_aload_n (pc' := 28) 0 rfl D_Md_goesThrough_0.2.2.2.2 rfl rfl) ?_
      refine z_getI (pc' := 31) (jI := 23) I g_Md_172 ao rfl rfl D_Md_goesThrough_1.1.1.1.1 rfl (fun f5 => ?_)
      refine z_s I (s_aload_n (pc' := 32) 0 rfl D_Md_goesThrough_1.1.1.1.2 rfl rfl) ?_
      refine z_getI (pc' := 35) (jI := 18) I g_Md_175 ao rfl rfl D_Md_goesThrough_1.1.1.2.1 rfl (fun f6 => ?_)
      refine z_icmp_ge (tgt := 79) (pc' := 38) I f5 f6 D_Md_goesThrough_1.1.1.2.2 rfl rfl (fun c7 => ?_) (fun c7 => ?_)
      · exact z_ret (w := none) I (fun g => gk1 _ g) rfl D_Md_goesThrough_2.2.2.2.2 rfl
      · refine z_s I (s_aload_n (pc' := 39) 0 rfl D_Md_goesThrough_1.1.2.1.1 rfl rfl) ?_
        refine z_getI (pc' := 42) (jI := 25) I g_Md_189 ao rfl rfl D_Md_goesThrough_1.1.2.1.2 rfl (fun f8 => ?_)
        refine z_s I (s_iconst (pc' := 43) D_Md_goesThrough_1.1.2.2.1 rfl) ?_
        refine z_icmp_eq (tgt := 55) (pc' := 46) I f8 (inR_c (x := 4) rfl) D_Md_goesThrough_1.1.2.2.2 rfl rfl (fun c9 => ?_) (fun c9 => ?_)
        · refine z_map _ (fun x g => hout1 x g) ?_
          refine z_s I (s_lv (lv' := [(0, vR ad o)]) [0] rfl) ?_
          exact J55 _
        · refine z_s I (s_aload_n (pc' := 47) 0 rfl D_Md_goesThrough_1.2.1.1.1 rfl rfl) ?_
          refine z_b1 (fun r12 q11 => ?_)
          refine z_callV (pc' := 50) I mv_Md_here ml_Md_178 (fun ad => []) ⟨Nat.le_of_ble_eq_true rfl, Nat.le_of_ble_eq_true rfl⟩ ao (fun hh => c_Md_here hw ao hh q11) rfl rfl (Nat.le_of_ble_eq_true rfl) D_Md_goesThrough_1.2.1.1.2 rfl (fun f10 => ?_)
          refine z_s I (s_bipush (pc' := 52) D_Md_goesThrough_1.2.1.2.1 rfl rfl) ?_
          refine z_icmp_eq (tgt := 61) (pc' := 55) I f10 (inR_c (x := 59) rfl) D_Md_goesThrough_1.2.1.2.2 rfl rfl (fun c13 => ?_) (fun c13 => ?_)
          · refine z_s I (s_aload_n (pc' := 62) 0 rfl D_Md_goesThrough_2.1.1.1 rfl rfl) ?_
            refine z_s I (s_dup (pc' := 63) rfl D_Md_goesThrough_2.1.1.2 rfl) ?_
            refine z_getI (pc' := 66) (jI := 23) I g_Md_172 ao rfl rfl D_Md_goesThrough_2.1.2.1 rfl (fun f14 => ?_)
            refine z_s I (s_iconst (pc' := 67) D_Md_goesThrough_2.1.2.2.1 rfl) ?_
            refine z_s I (s_iadd (pc' := 68) D_Md_goesThrough_2.1.2.2.2 rfl) ?_
            refine z_putI (pc' := 71) (jI := 23) I p_Md_172 ao rfl rfl (inR_w32 _) D_Md_goesThrough_2.2.1.1 rfl ?_
            refine z_bH (fun h15 e16 => ?_)
            refine z_s I (s_aload_n (pc' := 72) 0 rfl D_Md_goesThrough_2.2.1.2.1 rfl rfl) ?_
            refine z_s I (s_iload_n (pc' := 73) 1 rfl D_Md_goesThrough_2.2.1.2.2 rfl rfl) ?_
            refine z_b1 (fun h19 q18 => ?_)
            refine z_callV (pc' := 76) I mv_Md_clause ml_Md_192 (fun ad => [vI x1]) ⟨Nat.le_of_ble_eq_true rfl, Nat.le_of_ble_eq_true rfl⟩ ao (fun hh => c_Md_clause hw ao ax1 hh q18) rfl rfl (Nat.le_of_ble_eq_true rfl) D_Md_goesThrough_2.2.2.1 rfl (fun f17 => ?_)
            refine z_s I (s_goto (tgt := 20) D_Md_goesThrough_2.2.2.2.1 rfl) ?_
            exact z_end (fun g => hin1_1 _ g trivial)
          · refine z_map _ (fun x g => hout1 x g) ?_
            refine z_s I (s_lv (lv' := [(0, vR ad o)]) [0] rfl) ?_
            exact J55 _
  have main : Z Y (m_Md_goesThrough o x1 h) G0 h 0 [(0, vR ad o), (1, vI x1)] [] := by
    unfold m_Md_goesThrough
    refine z_s I (s_aload_n (pc' := 1) 0 rfl D_Md_goesThrough_0.1.1.1.1 rfl rfl) ?_
    refine z_s I (s_iconst (pc' := 2) D_Md_goesThrough_0.1.1.1.2 rfl) ?_
    refine z_putI (pc' := 5) (jI := 23) I p_Md_172 ao rfl rfl (b01.R bz0) D_Md_goesThrough_0.1.1.2.1 rfl ?_
    refine z_bH (fun h20 e21 => ?_)
    refine z_s I (s_aload_n (pc' := 6) 0 rfl D_Md_goesThrough_0.1.1.2.2 rfl rfl) ?_
    refine z_s I (s_iconst (pc' := 7) D_Md_goesThrough_0.1.2.1.1 rfl) ?_
    refine z_putI (pc' := 10) (jI := 25) I p_Md_189 ao rfl rfl (b01.R bz0) D_Md_goesThrough_0.1.2.1.2 rfl ?_
    refine z_bH (fun h22 e23 => ?_)
    refine z_s I (s_aload_n (pc' := 11) 0 rfl D_Md_goesThrough_0.1.2.2.1 rfl rfl) ?_
    refine z_s I (s_iconst (pc' := 12) D_Md_goesThrough_0.1.2.2.2 rfl) ?_
    refine z_putB (pc' := 15) (jI := 24) I p_Md_182 ao rfl rfl bz0 D_Md_goesThrough_0.2.1.1.1 rfl ?_
    refine z_bH (fun h24 e25 => ?_)
    refine z_s I (s_aload_n (pc' := 16) 0 rfl D_Md_goesThrough_0.2.1.1.2 rfl rfl) ?_
    refine z_s I (s_iload_n (pc' := 17) 1 rfl D_Md_goesThrough_0.2.1.2.1 rfl rfl) ?_
    refine z_b1 (fun h28 q27 => ?_)
    refine z_callV (pc' := 20) I mv_Md_clause ml_Md_192 (fun ad => [vI x1]) ⟨Nat.le_of_ble_eq_true rfl, Nat.le_of_ble_eq_true rfl⟩ ao (fun hh => c_Md_clause hw ao ax1 hh q27) rfl rfl (Nat.le_of_ble_eq_true rfl) D_Md_goesThrough_0.2.1.2.2 rfl (fun f26 => ?_)
    exact L20 _ trivial
  exact main _ hF (by rw [hG0])
set_option maxHeartbeats 4000000 in
set_option maxRecDepth 20000 in
theorem c_Md_feed {l : Launch} {τ : TP} {o : Int} {x1 : Int} {h : HP} {r : Int} {h' : HP} (hw : wf τ) (ao : ok τ (4, 10) o) (ax1 : inR x1) (hh : hr τ h) (hF : m_Md_feed o x1 h = some (r, h')) : Ctr l y_Md_feed k_Md_feed 2 (Option.some FieldType.int) 1 25 τ (fun ad => [vR ad o, vI x1]) h (some (vI r)) h' (inR r) := by
  refine ctr_of (by decide) hw hh (fun ad => Nat.le_of_ble_eq_true rfl) (fun ad K Y I hK => ?_)
  obtain ⟨G0, hG0⟩ : ∃ G : Int × HP → Prop, G = fun x => x = (r, h') := ⟨_, rfl⟩
  have gk0 : ∀ (x : Int) (y : HP), G0 (x, y) → inR x → K (some (vI x)) y := fun x y g q => by
    rw [hG0] at g
    cases g
    exact hK q
  have main : Z Y (m_Md_feed o x1 h) G0 h 0 [(0, vR ad o), (1, vI x1)] [] := by
    unfold m_Md_feed
    refine z_s I (s_iload_n (pc' := 1) 1 rfl D_Md_feed_0.1.1.1.1 rfl rfl) ?_
    refine z_s I (s_i2l (pc' := 2) ax1 D_Md_feed_0.1.1.1.2 rfl) ?_
    refine z_s I (s_lconst (pc' := 3) (x := 0) D_Md_feed_0.1.1.2.1 rfl rfl) ?_
    refine z_ldc2 (pc' := 6) (x := 127) I cl_Md_196 (by decide +kernel) D_Md_feed_0.1.1.2.2 rfl ?_
    refine z_b1 (fun r3 q2 => ?_)
    refine z_callS (pc' := 9) I mv_Md_in ml_Md_119 (fun ad => [vL x1, vL 0, vL 127]) ⟨Nat.le_of_ble_eq_true rfl, Nat.le_of_ble_eq_true rfl⟩ (fun hh => c_Md_in hw (ax1).L (inL_c (x := 0) rfl) (inL_c (x := 127) rfl) hh q2) rfl rfl (Nat.le_of_ble_eq_true rfl) D_Md_feed_0.1.2.1.1 rfl (fun f1 => ?_)
    refine z_if_ne (tgt := 15) (pc' := 12) I (b01.R f1) D_Md_feed_0.1.2.1.2 rfl rfl (fun c4 => ?_) (fun c4 => ?_)
    · refine z_s I (s_aload_n (pc' := 16) 0 rfl D_Md_feed_0.2.1.1.1 rfl rfl) ?_
      refine z_getI (pc' := 19) (jI := 18) I g_Md_175 ao rfl rfl D_Md_feed_0.2.1.1.2 rfl (fun f5 => ?_)
      refine z_s I (s_bipush (pc' := 21) D_Md_feed_0.2.1.2.1 rfl rfl) ?_
      refine z_icmp_ne (tgt := 27) (pc' := 24) I f5 (inR_c (x := 60) rfl) D_Md_feed_0.2.1.2.2 rfl rfl (fun c6 => ?_) (fun c6 => ?_)
      · refine z_s I (s_aload_n (pc' := 28) 0 rfl D_Md_feed_0.2.2.2.1 rfl rfl) ?_
        refine z_getR (pc' := 31) (eI := o + 14) I g_Md_55 ao rfl (by omega) D_Md_feed_0.2.2.2.2 rfl ?_
        have k7 : ok τ (0, 60) (o + 14) := r_Md_text hw ao (by omega)
        refine z_s I (s_aload_n (pc' := 32) 0 rfl D_Md_feed_1.1.1.1 rfl rfl) ?_
        refine z_getI (pc' := 35) (jI := 18) I g_Md_175 ao rfl rfl D_Md_feed_1.1.1.2.1 rfl (fun f8 => ?_)
        refine z_s I (s_iload_n (pc' := 36) 1 rfl D_Md_feed_1.1.1.2.2 rfl rfl) ?_
        refine z_iast (pc' := 37) (nI := 60) I k7 f8 ax1 rfl D_Md_feed_1.1.2.1 rfl (fun c9 => ?_)
        refine z_bH (fun h10 e11 => ?_)
        refine z_s I (s_aload_n (pc' := 38) 0 rfl D_Md_feed_1.1.2.2.1 rfl rfl) ?_
        refine z_s I (s_dup (pc' := 39) rfl D_Md_feed_1.1.2.2.2 rfl) ?_
        refine z_getI (pc' := 42) (jI := 18) I g_Md_175 ao rfl rfl D_Md_feed_1.2.1.1 rfl (fun f12 => ?_)
        refine z_s I (s_iconst (pc' := 43) D_Md_feed_1.2.1.2.1 rfl) ?_
        refine z_s I (s_iadd (pc' := 44) D_Md_feed_1.2.1.2.2 rfl) ?_
        refine z_putI (pc' := 47) (jI := 18) I p_Md_175 ao rfl rfl (inR_w32 _) D_Md_feed_1.2.2.1.1 rfl ?_
        refine z_bH (fun h13 e14 => ?_)
        refine z_s I (s_aload_n (pc' := 48) 0 rfl D_Md_feed_1.2.2.1.2 rfl rfl) ?_
        refine z_getI (pc' := 51) (jI := 18) I g_Md_175 ao rfl rfl D_Md_feed_1.2.2.2.1 rfl (fun f15 => ?_)
        exact z_ret (w := some (vI (h13 o 18))) I (fun g => gk0 _ _ g f15) ⟨_, rfl⟩ D_Md_feed_1.2.2.2.2 rfl
      · refine z_s I (s_bipush (pc' := 26) D_Md_feed_0.2.2.1.1 rfl rfl) ?_
        exact z_ret (w := some (vI (-4))) I (fun g => gk0 _ _ g (inR_c (x := (-4)) rfl)) ⟨_, rfl⟩ D_Md_feed_0.2.2.1.2 rfl
    · refine z_s I (s_bipush (pc' := 14) D_Md_feed_0.1.2.2.1 rfl rfl) ?_
      exact z_ret (w := some (vI (-2))) I (fun g => gk0 _ _ g (inR_c (x := (-2)) rfl)) ⟨_, rfl⟩ D_Md_feed_0.1.2.2.2 rfl
  exact main _ hF (by rw [hG0])
set_option maxHeartbeats 4000000 in
set_option maxRecDepth 20000 in
theorem c_Md_read {l : Launch} {τ : TP} {o : Int} {h : HP} {r : Int} {h' : HP} (hw : wf τ) (ao : ok τ (4, 10) o) (hh : hr τ h) (hF : m_Md_read o h = some (r, h')) : Ctr l y_Md_read k_Md_read 2 (Option.some FieldType.int) 4 90 τ (fun ad => [vR ad o]) h (some (vI r)) h' (inR r) := by
  refine ctr_of (by decide) hw hh (fun ad => Nat.le_of_ble_eq_true rfl) (fun ad K Y I hK => ?_)
  obtain ⟨G0, hG0⟩ : ∃ G : Int × HP → Prop, G = fun x => x = (r, h') := ⟨_, rfl⟩
  have gk0 : ∀ (x : Int) (y : HP), G0 (x, y) → inR x → K (some (vI x)) y := fun x y g q => by
    rw [hG0] at g
    cases g
    exact hK q
  have J30 : ∀ (x1 : Int) (ax1 : inR x1) (h : HP), Z Y (m_Md_read_J30 o x1 h) G0 h 30 [(0, vR ad o), (1, vI x1)] [] := by
    intro x1 ax1 h
    unfold m_Md_read_J30
    refine z_s I (s_aload_n (pc' := 31) 0 rfl D_Md_read_1.1.2.1 rfl rfl) ?_
    refine z_s I (s_iconst (pc' := 32) D_Md_read_1.1.2.2 rfl) ?_
    refine z_putI (pc' := 35) (jI := 18) I p_Md_175 ao rfl rfl (b01.R bz0) D_Md_read_1.2.1 rfl ?_
    refine z_bH (fun h1 e2 => ?_)
    refine z_s I (s_iload_n (pc' := 36) 1 rfl D_Md_read_1.2.2.1 rfl rfl) ?_
    exact z_ret (w := some (vI x1)) I (fun g => gk0 _ _ g ax1) ⟨_, rfl⟩ D_Md_read_1.2.2.2 rfl
  have main : Z Y (m_Md_read o h) G0 h 0 [(0, vR ad o)] [] := by
    unfold m_Md_read
    refine z_s I (s_aload_n (pc' := 1) 0 rfl D_Md_read_0.1.1.1.1 rfl rfl) ?_
    refine z_s I (s_iconst (pc' := 2) D_Md_read_0.1.1.1.2 rfl) ?_
    refine z_b1 (fun h5 q4 => ?_)
    refine z_callV (pc' := 5) I mv_Md_goesThrough ml_Md_198 (fun ad => [vI 0]) ⟨Nat.le_of_ble_eq_true rfl, Nat.le_of_ble_eq_true rfl⟩ ao (fun hh => c_Md_goesThrough hw ao bz0 hh q4) rfl rfl (Nat.le_of_ble_eq_true rfl) D_Md_read_0.1.1.2.1 rfl (fun f3 => ?_)
    refine z_s I (s_bipush (pc' := 7) D_Md_read_0.1.1.2.2 rfl rfl) ?_
    refine z_s I (s_aload_n (pc' := 8) 0 rfl D_Md_read_0.1.2.1.1 rfl rfl) ?_
    refine z_getI (pc' := 11) (jI := 23) I g_Md_172 ao rfl rfl D_Md_read_0.1.2.1.2 rfl (fun f6 => ?_)
    refine z_s I (s_isub (pc' := 12) D_Md_read_0.1.2.2.1 rfl) ?_
    refine z_bI (inR_w32 _) (fun v7 e8 f9 => ?_)
    refine z_s I (s_istore_n (pc' := 13) (lv' := [(1, vI v7), (0, vR ad o)]) D_Md_read_0.1.2.2.2 rfl (by decide) rfl rfl) ?_
    refine z_s I (s_aload_n (pc' := 14) 1 rfl D_Md_read_0.2.1.1.1 rfl rfl) ?_
    refine z_getB (pc' := 17) (jI := 24) I g_Md_182 ao rfl rfl D_Md_read_0.2.1.1.2 rfl (fun f10 => ?_)
    refine z_if_ne (tgt := 30) (pc' := 20) I (b01.R f10) D_Md_read_0.2.1.2.1 rfl rfl (fun c11 => ?_) (fun c11 => ?_)
    · refine z_s I (s_lv (lv' := [(0, vR ad o), (1, vI v7)]) [1, 0] rfl) ?_
      exact J30 _ f9 _
    · refine z_s I (s_aload_n (pc' := 21) 1 rfl D_Md_read_0.2.1.2.2 rfl rfl) ?_
      refine z_s I (s_iconst (pc' := 22) D_Md_read_0.2.2.1.1 rfl) ?_
      refine z_b1 (fun h14 q13 => ?_)
      refine z_callV (pc' := 25) I mv_Md_goesThrough ml_Md_198 (fun ad => [vI 1]) ⟨Nat.le_of_ble_eq_true rfl, Nat.le_of_ble_eq_true rfl⟩ ao (fun hh => c_Md_goesThrough hw ao bz1 hh q13) rfl rfl (Nat.le_of_ble_eq_true rfl) D_Md_read_0.2.2.1.2 rfl (fun f12 => ?_)
      refine z_s I (s_aload_n (pc' := 26) 1 rfl D_Md_read_0.2.2.2.1 rfl rfl) ?_
      refine z_getI (pc' := 29) (jI := 25) I g_Md_189 ao rfl rfl D_Md_read_0.2.2.2.2 rfl (fun f15 => ?_)
      refine z_bI f15 (fun v16 e17 f18 => ?_)
      refine z_s I (s_istore_n (pc' := 30) (lv' := [(1, vI v16), (0, vR ad o)]) D_Md_read_1.1.1 rfl (by decide) rfl rfl) ?_
      refine z_s I (s_lv (lv' := [(0, vR ad o), (1, vI v16)]) [1, 0] rfl) ?_
      exact J30 _ f18 _
  exact main _ hF (by rw [hG0])
set_option maxHeartbeats 4000000 in
set_option maxRecDepth 20000 in
theorem c_Md_isUse {l : Launch} {τ : TP} {x0 : Int} {x1 : Int} {h : HP} {r : Int} (hw : wf τ) (ax0 : inR x0) (ax1 : inR x1) (hh : hr τ h) (hF : m_Md_isUse x0 x1 h = some r) : Ctr l y_Md_isUse k_Md_isUse 2 (Option.some FieldType.boolean) 1 25 τ (fun ad => [vI x0, vI x1]) h (some (vI r)) h (b01 r) := by
  refine ctr_of (by decide) hw hh (fun ad => Nat.le_of_ble_eq_true rfl) (fun ad K Y I hK => ?_)
  obtain ⟨G0, hG0⟩ : ∃ G : Int → Prop, G = fun x => x = r := ⟨_, rfl⟩
  have gk0 : ∀ (x : Int), G0 x → b01 x → K (some (vI x)) h := fun x g q => by
    rw [hG0] at g
    cases g
    exact hK q
  have J36 : Z Y (m_Md_isUse_J36 x1 h) G0 h 36 [(1, vI x1)] [] := by
    unfold m_Md_isUse_J36
    refine z_s I (s_iload_n (pc' := 37) 0 rfl D_Md_isUse_0.1.1.2.1 rfl rfl) ?_
    refine z_s I (s_i2l (pc' := 38) ax1 D_Md_isUse_0.1.1.2.2 rfl) ?_
    refine z_s I (s_lconst (pc' := 39) (x := 0) D_Md_isUse_0.1.2.1.1 rfl rfl) ?_
    refine z_ldc2 (pc' := 42) (x := 3) I cl_Md_163 (by decide +kernel) D_Md_isUse_0.1.2.1.2 rfl ?_
    refine z_b1 (fun r3 q2 => ?_)
    refine z_callS (pc' := 45) I mv_Md_in ml_Md_119 (fun ad => [vL x1, vL 0, vL 3]) ⟨Nat.le_of_ble_eq_true rfl, Nat.le_of_ble_eq_true rfl⟩ (fun hh => c_Md_in hw (ax1).L (inL_c (x := 0) rfl) (inL_c (x := 3) rfl) hh q2) rfl rfl (Nat.le_of_ble_eq_true rfl) D_Md_isUse_0.1.2.2.1 rfl (fun f1 => ?_)
    exact z_ret (w := some (vI r3)) I (fun g => gk0 _ g f1) ⟨_, f1, rfl⟩ D_Md_isUse_0.1.2.2.2 rfl
  have main : Z Y (m_Md_isUse x0 x1 h) G0 h 0 [(0, vI x0), (1, vI x1)] [] := by
    unfold m_Md_isUse
    refine z_s I (s_iload_n (pc' := 1) 0 rfl D_Md_isUse_0.1.1.1.1 rfl rfl) ?_
    refine z_tin (tgt := 36) I ax0 D_Md_isUse_0.1.1.1.2 0 ⟨by decide, by decide⟩ rfl rfl (fun c4 => ?_) (fun c4 => ?_)
    · refine z_s I (s_lv (lv' := [(1, vI x1)]) [1] rfl) ?_
      exact J36
    · skip
      refine z_tin (tgt := 36) I ax0 D_Md_isUse_0.1.1.1.2 1 ⟨by decide, by decide⟩ rfl rfl (fun c5 => ?_) (fun c5 => ?_)
      · refine z_s I (s_lv (lv' := [(1, vI x1)]) [1] rfl) ?_
        exact J36
      · skip
        refine z_tin (tgt := 46) I ax0 D_Md_isUse_0.1.1.1.2 2 ⟨by decide, by decide⟩ rfl rfl (fun c6 => ?_) (fun c6 => ?_)
        · refine z_s I (s_iload_n (pc' := 47) 1 rfl D_Md_isUse_0.2.1.1.1 rfl rfl) ?_
          refine z_s I (s_i2l (pc' := 48) ax1 D_Md_isUse_0.2.1.1.2 rfl) ?_
          refine z_s I (s_lconst (pc' := 49) (x := 1) D_Md_isUse_0.2.1.2.1 rfl rfl) ?_
          refine z_ldc2 (pc' := 52) (x := 500) I cl_Md_201 (by decide +kernel) D_Md_isUse_0.2.1.2.2 rfl ?_
          refine z_b1 (fun r9 q8 => ?_)
          refine z_callS (pc' := 55) I mv_Md_in ml_Md_119 (fun ad => [vL x1, vL 1, vL 500]) ⟨Nat.le_of_ble_eq_true rfl, Nat.le_of_ble_eq_true rfl⟩ (fun hh => c_Md_in hw (ax1).L (inL_c (x := 1) rfl) (inL_c (x := 500) rfl) hh q8) rfl rfl (Nat.le_of_ble_eq_true rfl) D_Md_isUse_0.2.2.1.1 rfl (fun f7 => ?_)
          exact z_ret (w := some (vI r9)) I (fun g => gk0 _ g f7) ⟨_, f7, rfl⟩ D_Md_isUse_0.2.2.1.2 rfl
        · skip
          refine z_tin (tgt := 56) I ax0 D_Md_isUse_0.1.1.1.2 3 ⟨by decide, by decide⟩ rfl rfl (fun c10 => ?_) (fun c10 => ?_)
          · refine z_s I (s_iload_n (pc' := 57) 1 rfl D_Md_isUse_0.2.2.2.1 rfl rfl) ?_
            refine z_s I (s_i2l (pc' := 58) ax1 D_Md_isUse_0.2.2.2.2 rfl) ?_
            refine z_s I (s_lconst (pc' := 59) (x := 0) D_Md_isUse_1.1.1.1.1 rfl rfl) ?_
            refine z_ldc2 (pc' := 62) (x := 9) I cl_Md_170 (by decide +kernel) D_Md_isUse_1.1.1.1.2 rfl ?_
            refine z_b1 (fun r13 q12 => ?_)
            refine z_callS (pc' := 65) I mv_Md_in ml_Md_119 (fun ad => [vL x1, vL 0, vL 9]) ⟨Nat.le_of_ble_eq_true rfl, Nat.le_of_ble_eq_true rfl⟩ (fun hh => c_Md_in hw (ax1).L (inL_c (x := 0) rfl) (inL_c (x := 9) rfl) hh q12) rfl rfl (Nat.le_of_ble_eq_true rfl) D_Md_isUse_1.1.1.2.1 rfl (fun f11 => ?_)
            exact z_ret (w := some (vI r13)) I (fun g => gk0 _ g f11) ⟨_, f11, rfl⟩ D_Md_isUse_1.1.1.2.2 rfl
          · skip
            refine z_tin (tgt := 66) I ax0 D_Md_isUse_0.1.1.1.2 4 ⟨by decide, by decide⟩ rfl rfl (fun c14 => ?_) (fun c14 => ?_)
            · refine z_s I (s_iload_n (pc' := 67) 1 rfl D_Md_isUse_1.1.2.1.1 rfl rfl) ?_
              refine z_s I (s_i2l (pc' := 68) ax1 D_Md_isUse_1.1.2.1.2 rfl) ?_
              refine z_s I (s_lconst (pc' := 69) (x := 0) D_Md_isUse_1.1.2.2.1 rfl rfl) ?_
              refine z_ldc2 (pc' := 72) (x := 2) I cl_Md_203 (by decide +kernel) D_Md_isUse_1.1.2.2.2 rfl ?_
              refine z_b1 (fun r17 q16 => ?_)
              refine z_callS (pc' := 75) I mv_Md_in ml_Md_119 (fun ad => [vL x1, vL 0, vL 2]) ⟨Nat.le_of_ble_eq_true rfl, Nat.le_of_ble_eq_true rfl⟩ (fun hh => c_Md_in hw (ax1).L (inL_c (x := 0) rfl) (inL_c (x := 2) rfl) hh q16) rfl rfl (Nat.le_of_ble_eq_true rfl) D_Md_isUse_1.2.1.1.1 rfl (fun f15 => ?_)
              exact z_ret (w := some (vI r17)) I (fun g => gk0 _ g f15) ⟨_, f15, rfl⟩ D_Md_isUse_1.2.1.1.2 rfl
            · skip
              refine z_tout (tgt := 76) I ax0 D_Md_isUse_0.1.1.1.2 (by omega) rfl ?_
              refine z_s I (s_iload_n (pc' := 77) 1 rfl D_Md_isUse_1.2.1.2.1 rfl rfl) ?_
              refine z_s I (s_i2l (pc' := 78) ax1 D_Md_isUse_1.2.1.2.2 rfl) ?_
              refine z_s I (s_lconst (pc' := 79) (x := 1) D_Md_isUse_1.2.2.1.1 rfl rfl) ?_
              refine z_ldc2 (pc' := 82) (x := 4) I cl_Md_205 (by decide +kernel) D_Md_isUse_1.2.2.1.2 rfl ?_
              refine z_b1 (fun r20 q19 => ?_)
              refine z_callS (pc' := 85) I mv_Md_in ml_Md_119 (fun ad => [vL x1, vL 1, vL 4]) ⟨Nat.le_of_ble_eq_true rfl, Nat.le_of_ble_eq_true rfl⟩ (fun hh => c_Md_in hw (ax1).L (inL_c (x := 1) rfl) (inL_c (x := 4) rfl) hh q19) rfl rfl (Nat.le_of_ble_eq_true rfl) D_Md_isUse_1.2.2.2.1 rfl (fun f18 => ?_)
              exact z_ret (w := some (vI r20)) I (fun g => gk0 _ g f18) ⟨_, f18, rfl⟩ D_Md_isUse_1.2.2.2.2 rfl
  exact main _ hF (by rw [hG0])
set_option maxHeartbeats 4000000 in
set_option maxRecDepth 20000 in
theorem c_Md_use {l : Launch} {τ : TP} {o : Int} {x1 : Int} {x2 : Int} {h : HP} {r : Int} {h' : HP} (hw : wf τ) (ao : ok τ (4, 10) o) (ax1 : inR x1) (ax2 : inR x2) (hh : hr τ h) (hF : m_Md_use o x1 x2 h = some (r, h')) : Ctr l y_Md_use k_Md_use 4 (Option.some FieldType.int) 2 46 τ (fun ad => [vR ad o, vI x1, vI x2]) h (some (vI r)) h' (inR r) := by
  refine ctr_of (by decide) hw hh (fun ad => Nat.le_of_ble_eq_true rfl) (fun ad K Y I hK => ?_)
  obtain ⟨G0, hG0⟩ : ∃ G : Int × HP → Prop, G = fun x => x = (r, h') := ⟨_, rfl⟩
  have gk0 : ∀ (x : Int) (y : HP), G0 (x, y) → inR x → K (some (vI x)) y := fun x y g q => by
    rw [hG0] at g
    cases g
    exact hK q
  have main : Z Y (m_Md_use o x1 x2 h) G0 h 0 [(0, vR ad o), (1, vI x1), (2, vI x2)] [] := by
    unfold m_Md_use
    refine z_s I (s_iload_n (pc' := 1) 1 rfl D_Md_use_0.1.1.1.1 rfl rfl) ?_
    refine z_s I (s_i2l (pc' := 2) ax1 D_Md_use_0.1.1.1.2 rfl) ?_
    refine z_s I (s_lconst (pc' := 3) (x := 0) D_Md_use_0.1.1.2.1 rfl rfl) ?_
    refine z_ldc2 (pc' := 6) (x := 5) I cl_Md_207 (by decide +kernel) D_Md_use_0.1.1.2.2 rfl ?_
    refine z_b1 (fun r3 q2 => ?_)
    refine z_callS (pc' := 9) I mv_Md_in ml_Md_119 (fun ad => [vL x1, vL 0, vL 5]) ⟨Nat.le_of_ble_eq_true rfl, Nat.le_of_ble_eq_true rfl⟩ (fun hh => c_Md_in hw (ax1).L (inL_c (x := 0) rfl) (inL_c (x := 5) rfl) hh q2) rfl rfl (Nat.le_of_ble_eq_true rfl) D_Md_use_0.1.2.1.1 rfl (fun f1 => ?_)
    refine z_if_ne (tgt := 14) (pc' := 12) I (b01.R f1) D_Md_use_0.1.2.1.2 rfl rfl (fun c4 => ?_) (fun c4 => ?_)
    · refine z_s I (s_iload_n (pc' := 15) 1 rfl D_Md_use_0.2.1.1.1 rfl rfl) ?_
      refine z_s I (s_iload_n (pc' := 16) 2 rfl D_Md_use_0.2.1.1.2 rfl rfl) ?_
      refine z_b1 (fun r7 q6 => ?_)
      refine z_callS (pc' := 19) I mv_Md_isUse ml_Md_209 (fun ad => [vI x1, vI x2]) ⟨Nat.le_of_ble_eq_true rfl, Nat.le_of_ble_eq_true rfl⟩ (fun hh => c_Md_isUse hw ax1 ax2 hh q6) rfl rfl (Nat.le_of_ble_eq_true rfl) D_Md_use_0.2.1.2.1 rfl (fun f5 => ?_)
      refine z_if_ne (tgt := 25) (pc' := 22) I (b01.R f5) D_Md_use_0.2.1.2.2 rfl rfl (fun c8 => ?_) (fun c8 => ?_)
      · refine z_s I (s_aload_n (pc' := 26) 0 rfl D_Md_use_0.2.2.2.1 rfl rfl) ?_
        refine z_getR (pc' := 29) (eI := o + 7) I g_Md_34 ao rfl (by omega) D_Md_use_0.2.2.2.2 rfl ?_
        have k9 : ok τ (0, 6) (o + 7) := r_Md_used hw ao (by omega)
        refine z_s I (s_iload_n (pc' := 30) 1 rfl D_Md_use_1.1.1.1 rfl rfl) ?_
        refine z_iald (pc' := 31) (nI := 6) I k9 ax1 rfl D_Md_use_1.1.1.2 rfl (fun c10 f11 => ?_)
        refine z_bI f11 (fun v12 e13 f14 => ?_)
        refine z_s I (s_istore_n (pc' := 32) (lv' := [(3, vI v12), (0, vR ad o), (1, vI x1), (2, vI x2)]) D_Md_use_1.1.2.1 rfl (by decide) rfl rfl) ?_
        refine z_s I (s_aload_n (pc' := 33) 1 rfl D_Md_use_1.1.2.2.1 rfl rfl) ?_
        refine z_getR (pc' := 36) (eI := o + 7) I g_Md_34 ao rfl (by omega) D_Md_use_1.1.2.2.2 rfl ?_
        have k15 : ok τ (0, 6) (o + 7) := r_Md_used hw ao (by omega)
        refine z_s I (s_iload_n (pc' := 37) 2 rfl D_Md_use_1.2.1.1 rfl rfl) ?_
        refine z_s I (s_iload_n (pc' := 38) 3 rfl D_Md_use_1.2.1.2 rfl rfl) ?_
        refine z_iast (pc' := 39) (nI := 6) I k15 ax1 ax2 rfl D_Md_use_1.2.2.1 rfl (fun c16 => ?_)
        refine z_bH (fun h17 e18 => ?_)
        refine z_s I (s_iload_n (pc' := 40) 0 rfl D_Md_use_1.2.2.2.1 rfl rfl) ?_
        exact z_ret (w := some (vI v12)) I (fun g => gk0 _ _ g f14) ⟨_, rfl⟩ D_Md_use_1.2.2.2.2 rfl
      · refine z_s I (s_bipush (pc' := 24) D_Md_use_0.2.2.1.1 rfl rfl) ?_
        exact z_ret (w := some (vI (-2))) I (fun g => gk0 _ _ g (inR_c (x := (-2)) rfl)) ⟨_, rfl⟩ D_Md_use_0.2.2.1.2 rfl
    · refine z_s I (s_iconst (pc' := 13) D_Md_use_0.1.2.2.1 rfl) ?_
      exact z_ret (w := some (vI (-1))) I (fun g => gk0 _ _ g (inR_c (x := (-1)) rfl)) ⟨_, rfl⟩ D_Md_use_0.1.2.2.2 rfl
  exact main _ hF (by rw [hG0])
set_option maxHeartbeats 4000000 in
set_option maxRecDepth 20000 in
theorem c_Md_answer {l : Launch} {τ : TP} {o : Int} {x1 : Int} {x2 : Int} {h : HP} {r : Int} (hw : wf τ) (ao : ok τ (4, 10) o) (ax1 : inR x1) (ax2 : inR x2) (hh : hr τ h) (hF : m_Md_answer o x1 x2 h = some r) : Ctr l y_Md_answer k_Md_answer 3 (Option.some FieldType.int) 2 46 τ (fun ad => [vR ad o, vI x1, vI x2]) h (some (vI r)) h (inR r) := by
  refine ctr_of (by decide) hw hh (fun ad => Nat.le_of_ble_eq_true rfl) (fun ad K Y I hK => ?_)
  obtain ⟨G0, hG0⟩ : ∃ G : Int → Prop, G = fun x => x = r := ⟨_, rfl⟩
  have gk0 : ∀ (x : Int), G0 x → inR x → K (some (vI x)) h := fun x g q => by
    rw [hG0] at g
    cases g
    exact hK q
  have main : Z Y (m_Md_answer o x1 x2 h) G0 h 0 [(0, vR ad o), (1, vI x1), (2, vI x2)] [] := by
    unfold m_Md_answer
    refine z_s I (s_aload_n (pc' := 1) 0 rfl D_Md_answer_0.1.1.1.1 rfl rfl) ?_
    refine z_s I (s_iload_n (pc' := 2) 1 rfl D_Md_answer_0.1.1.1.2 rfl rfl) ?_
    refine z_b1 (fun r3 q2 => ?_)
    refine z_callV (pc' := 5) I mv_Md_isOne ml_Md_126 (fun ad => [vI x1]) ⟨Nat.le_of_ble_eq_true rfl, Nat.le_of_ble_eq_true rfl⟩ ao (fun hh => c_Md_isOne hw ao ax1 hh q2) rfl rfl (Nat.le_of_ble_eq_true rfl) D_Md_answer_0.1.1.2.1 rfl (fun f1 => ?_)
    refine z_if_eq (tgt := 33) (pc' := 8) I (b01.R f1) D_Md_answer_0.1.1.2.2 rfl rfl (fun c4 => ?_) (fun c4 => ?_)
    · refine z_s I (s_iconst (pc' := 34) D_Md_answer_1.2.1 rfl) ?_
      exact z_ret (w := some (vI (-1))) I (fun g => gk0 _ g (inR_c (x := (-1)) rfl)) ⟨_, rfl⟩ D_Md_answer_1.2.2 rfl
    · refine z_s I (s_aload_n (pc' := 9) 0 rfl D_Md_answer_0.1.2.1.1 rfl rfl) ?_
      refine z_s I (s_iload_n (pc' := 10) 2 rfl D_Md_answer_0.1.2.1.2 rfl rfl) ?_
      refine z_b1 (fun r7 q6 => ?_)
      refine z_callV (pc' := 13) I mv_Md_isItem ml_Md_160 (fun ad => [vI x2]) ⟨Nat.le_of_ble_eq_true rfl, Nat.le_of_ble_eq_true rfl⟩ ao (fun hh => c_Md_isItem hw ao ax2 hh q6) rfl rfl (Nat.le_of_ble_eq_true rfl) D_Md_answer_0.1.2.2.1 rfl (fun f5 => ?_)
      refine z_if_eq (tgt := 33) (pc' := 16) I (b01.R f5) D_Md_answer_0.1.2.2.2 rfl rfl (fun c8 => ?_) (fun c8 => ?_)
      · refine z_s I (s_iconst (pc' := 34) D_Md_answer_1.2.1 rfl) ?_
        exact z_ret (w := some (vI (-1))) I (fun g => gk0 _ g (inR_c (x := (-1)) rfl)) ⟨_, rfl⟩ D_Md_answer_1.2.2 rfl
      · refine z_s I (s_aload_n (pc' := 17) 0 rfl D_Md_answer_0.2.1.1.1 rfl rfl) ?_
        refine z_getR (pc' := 20) (eI := o + 4) I g_Md_25 ao rfl (by omega) D_Md_answer_0.2.1.1.2 rfl ?_
        have k9 : ok τ (0, 64) (o + 4) := r_Md_given hw ao (by omega)
        refine z_s I (s_bipush (pc' := 22) D_Md_answer_0.2.1.2.1 rfl rfl) ?_
        refine z_s I (s_iload_n (pc' := 23) 1 rfl D_Md_answer_0.2.1.2.2 rfl rfl) ?_
        refine z_s I (s_imul (pc' := 24) D_Md_answer_0.2.2.1.1 rfl) ?_
        refine z_s I (s_iload_n (pc' := 25) 2 rfl D_Md_answer_0.2.2.1.2 rfl rfl) ?_
        refine z_s I (s_iadd (pc' := 26) D_Md_answer_0.2.2.2.1 rfl) ?_
        refine z_iald (pc' := 27) (nI := 64) I k9 (inR_w32 _) rfl D_Md_answer_0.2.2.2.2 rfl (fun c10 f11 => ?_)
        refine z_b1 (fun r14 q13 => ?_)
        refine z_callS (pc' := 30) I mv_Md_told ml_Md_167 (fun ad => [vI (h (o + 4) (w32 ((w32 (8 * x1)) + x2)))]) ⟨Nat.le_of_ble_eq_true rfl, Nat.le_of_ble_eq_true rfl⟩ (fun hh => c_Md_told hw f11 hh q13) rfl rfl (Nat.le_of_ble_eq_true rfl) D_Md_answer_1.1.1 rfl (fun f12 => ?_)
        refine z_s I (s_goto (tgt := 34) D_Md_answer_1.1.2 rfl) ?_
        exact z_ret (w := some (vI r14)) I (fun g => gk0 _ g f12) ⟨_, rfl⟩ D_Md_answer_1.2.2 rfl
  exact main _ hF (by rw [hG0])
set_option maxHeartbeats 4000000 in
set_option maxRecDepth 20000 in
theorem c_Md_gave {l : Launch} {τ : TP} {o : Int} {x1 : Int} {x2 : Int} {h : HP} {r : Int} (hw : wf τ) (ao : ok τ (4, 10) o) (ax1 : inR x1) (ax2 : b01 x2) (hh : hr τ h) (hF : m_Md_gave o x1 x2 h = some r) : Ctr l y_Md_gave k_Md_gave 6 (Option.some FieldType.int) 0 0 τ (fun ad => [vR ad o, vI x1, vI x2]) h (some (vI r)) h (inR r) := by
  refine ctr_of (by decide) hw hh (fun ad => Nat.le_of_ble_eq_true rfl) (fun ad K Y I hK => ?_)
  obtain ⟨G0, hG0⟩ : ∃ G : Int → Prop, G = fun x => x = r := ⟨_, rfl⟩
  have gk0 : ∀ (x : Int), G0 x → inR x → K (some (vI x)) h := fun x g q => by
    rw [hG0] at g
    cases g
    exact hK q
  have L5 : ∀ (s : Int × Int), (inR (s.1) ∧ inR (s.2)) → Z Y (m_Md_gave_L5 o x1 x2 h s) G0 h 5 [(0, vR ad o), (1, vI x1), (2, vI x2), (3, vI (s.1)), (4, vI (s.2))] [] := by
    intro s hs
    refine z_loop (G := G0) (hO := fun s : Int × Int => h) (lO := fun s : Int × Int => [(0, vR ad o), (1, vI x1), (2, vI x2), (3, vI (s.1)), (4, vI (s.2))]) (Φ := fun s : Int × Int => inR (s.1) ∧ inR (s.2)) (fun G1 hin1_1 hout1 s hs => ?_) FUEL s hs
    obtain ⟨x3, x4⟩ := s
    obtain ⟨ax3, ax4⟩ := hs
    have gk1 := fun (x : Int) (g : G1 (.inr (x))) (q : inR x) => gk0 x (hout1 _ g) q
    show Z Y (m_Md_gave_L5b o x1 x2 h x3 x4) G1 h 5 [(0, vR ad o), (1, vI x1), (2, vI x2), (3, vI x3), (4, vI x4)] []
    unfold m_Md_gave_L5b
    refine z_s I (s_iload (pc' := 7) 4 rfl D_Md_gave_0.1.2.1.1 rfl) ?_
    refine z_s I (s_aload_n (pc' := 8) 0 rfl D_Md_gave_0.1.2.1.2 rfl rfl) ?_
    refine z_getI (pc' := 11) (jI := 0) I g_Md_9 ao rfl rfl D_Md_gave_0.1.2.2.1 rfl (fun f1 => ?_)
    refine z_icmp_ge (tgt := 63) (pc' := 14) I ax4 f1 D_Md_gave_0.1.2.2.2 rfl rfl (fun c2 => ?_) (fun c2 => ?_)
    · refine z_s I (s_iload_n (pc' := 64) 3 rfl D_Md_gave_2.2.2.1 rfl rfl) ?_
      exact z_ret (w := some (vI x3)) I (fun g => gk1 _ g ax3) ⟨_, rfl⟩ D_Md_gave_2.2.2.2 rfl
    · refine z_s I (s_aload_n (pc' := 15) 0 rfl D_Md_gave_0.2.1.1.1 rfl rfl) ?_
      refine z_getR (pc' := 18) (eI := o + 4) I g_Md_25 ao rfl (by omega) D_Md_gave_0.2.1.1.2 rfl ?_
      have k3 : ok τ (0, 64) (o + 4) := r_Md_given hw ao (by omega)
      refine z_s I (s_bipush (pc' := 20) D_Md_gave_0.2.1.2.1 rfl rfl) ?_
      refine z_s I (s_iload_n (pc' := 21) 1 rfl D_Md_gave_0.2.1.2.2 rfl rfl) ?_
      refine z_s I (s_imul (pc' := 22) D_Md_gave_0.2.2.1.1 rfl) ?_
      refine z_s I (s_iload (pc' := 24) 4 rfl D_Md_gave_0.2.2.1.2 rfl) ?_
      refine z_s I (s_iadd (pc' := 25) D_Md_gave_0.2.2.2.1 rfl) ?_
      refine z_iald (pc' := 26) (nI := 64) I k3 (inR_w32 _) rfl D_Md_gave_0.2.2.2.2 rfl (fun c4 f5 => ?_)
      refine z_bI f5 (fun v6 e7 f8 => ?_)
      refine z_s I (s_istore (pc' := 28) (lv' := [(5, vI v6), (0, vR ad o), (1, vI x1), (2, vI x2), (3, vI x3), (4, vI x4)]) D_Md_gave_1.1.1.1.1 (by decide) rfl rfl) ?_
      refine z_s I (s_iload_n (pc' := 29) 4 rfl D_Md_gave_1.1.1.1.2 rfl rfl) ?_
      refine z_s I (s_iload (pc' := 31) 0 rfl D_Md_gave_1.1.1.2.1 rfl) ?_
      refine z_if_lt (tgt := 54) (pc' := 34) I f8 D_Md_gave_1.1.1.2.2 rfl rfl (fun c9 => ?_) (fun c9 => ?_)
      · refine z_s I (s_iconst (pc' := 55) D_Md_gave_1.2.2.2.1 rfl) ?_
        refine z_s I (s_iadd (pc' := 56) D_Md_gave_1.2.2.2.2 rfl) ?_
        refine z_bI (inR_w32 _) (fun v10 e11 f12 => ?_)
        refine z_s I (s_istore_n (pc' := 57) (lv' := [(3, vI v10), (5, vI v6), (0, vR ad o), (1, vI x1), (2, vI x2), (4, vI x4)]) D_Md_gave_2.1.1 rfl (by decide) rfl rfl) ?_
        refine z_s I (s_iinc (pc' := 60) (lv' := [(4, vI (w32 (x4 + 1))), (3, vI v10), (5, vI v6), (0, vR ad o), (1, vI x1), (2, vI x2)]) (n := 5) rfl D_Md_gave_2.1.2 (by decide) rfl rfl) ?_
        refine z_s I (s_goto (tgt := 5) D_Md_gave_2.2.1 rfl) ?_
        refine z_s I (s_lv (lv' := [(0, vR ad o), (1, vI x1), (2, vI x2), (3, vI v10), (4, vI (w32 (x4 + 1)))]) [3, 4, 5, 1, 0] rfl) ?_
        exact z_end (fun g => hin1_1 _ g ⟨f12, (inR_w32 _)⟩)
      · refine z_s I (s_iload_n (pc' := 35) 3 rfl D_Md_gave_1.1.2.1.1 rfl rfl) ?_
        refine z_if_eq (tgt := 50) (pc' := 38) I (b01.R ax2) D_Md_gave_1.1.2.1.2 rfl rfl (fun c13 => ?_) (fun c13 => ?_)
        · refine z_s I (s_iconst (pc' := 51) D_Md_gave_1.2.2.1.1 rfl) ?_
          refine z_s I (s_goto (tgt := 55) D_Md_gave_1.2.2.1.2 rfl) ?_
          refine z_s I (s_iadd (pc' := 56) D_Md_gave_1.2.2.2.2 rfl) ?_
          refine z_bI (inR_w32 _) (fun v14 e15 f16 => ?_)
          refine z_s I (s_istore_n (pc' := 57) (lv' := [(3, vI v14), (5, vI v6), (0, vR ad o), (1, vI x1), (2, vI x2), (4, vI x4)]) D_Md_gave_2.1.1 rfl (by decide) rfl rfl) ?_
          refine z_s I (s_iinc (pc' := 60) (lv' := [(4, vI (w32 (x4 + 1))), (3, vI v14), (5, vI v6), (0, vR ad o), (1, vI x1), (2, vI x2)]) (n := 5) rfl D_Md_gave_2.1.2 (by decide) rfl rfl) ?_
          refine z_s I (s_goto (tgt := 5) D_Md_gave_2.2.1 rfl) ?_
          refine z_s I (s_lv (lv' := [(0, vR ad o), (1, vI x1), (2, vI x2), (3, vI v14), (4, vI (w32 (x4 + 1)))]) [3, 4, 5, 1, 0] rfl) ?_
          exact z_end (fun g => hin1_1 _ g ⟨f16, (inR_w32 _)⟩)
        · refine z_s I (s_iload (pc' := 40) 0 rfl D_Md_gave_1.1.2.2.1 rfl) ?_
          refine z_s I (s_aload_n (pc' := 41) 1 rfl D_Md_gave_1.1.2.2.2 rfl rfl) ?_
          refine z_getR (pc' := 44) (eI := o + 1) I g_Md_15 ao rfl (by omega) D_Md_gave_1.2.1.1.1 rfl ?_
          have k17 : ok τ (0, 8) (o + 1) := r_Md_right hw ao (by omega)
          refine z_s I (s_iload (pc' := 46) 5 rfl D_Md_gave_1.2.1.1.2 rfl) ?_
          refine z_iald (pc' := 47) (nI := 8) I k17 ax4 rfl D_Md_gave_1.2.1.2.1 rfl (fun c18 f19 => ?_)
          refine z_icmp_ne (tgt := 54) (pc' := 50) I f8 f19 D_Md_gave_1.2.1.2.2 rfl rfl (fun c20 => ?_) (fun c20 => ?_)
          · refine z_s I (s_iconst (pc' := 55) D_Md_gave_1.2.2.2.1 rfl) ?_
            refine z_s I (s_iadd (pc' := 56) D_Md_gave_1.2.2.2.2 rfl) ?_
            refine z_bI (inR_w32 _) (fun v21 e22 f23 => ?_)
            refine z_s I (s_istore_n (pc' := 57) (lv' := [(3, vI v21), (5, vI v6), (0, vR ad o), (1, vI x1), (2, vI x2), (4, vI x4)]) D_Md_gave_2.1.1 rfl (by decide) rfl rfl) ?_
            refine z_s I (s_iinc (pc' := 60) (lv' := [(4, vI (w32 (x4 + 1))), (3, vI v21), (5, vI v6), (0, vR ad o), (1, vI x1), (2, vI x2)]) (n := 5) rfl D_Md_gave_2.1.2 (by decide) rfl rfl) ?_
            refine z_s I (s_goto (tgt := 5) D_Md_gave_2.2.1 rfl) ?_
            refine z_s I (s_lv (lv' := [(0, vR ad o), (1, vI x1), (2, vI x2), (3, vI v21), (4, vI (w32 (x4 + 1)))]) [3, 4, 5, 1, 0] rfl) ?_
            exact z_end (fun g => hin1_1 _ g ⟨f23, (inR_w32 _)⟩)
          · refine z_s I (s_iconst (pc' := 51) D_Md_gave_1.2.2.1.1 rfl) ?_
            refine z_s I (s_goto (tgt := 55) D_Md_gave_1.2.2.1.2 rfl) ?_
            refine z_s I (s_iadd (pc' := 56) D_Md_gave_1.2.2.2.2 rfl) ?_
            refine z_bI (inR_w32 _) (fun v24 e25 f26 => ?_)
            refine z_s I (s_istore_n (pc' := 57) (lv' := [(3, vI v24), (5, vI v6), (0, vR ad o), (1, vI x1), (2, vI x2), (4, vI x4)]) D_Md_gave_2.1.1 rfl (by decide) rfl rfl) ?_
            refine z_s I (s_iinc (pc' := 60) (lv' := [(4, vI (w32 (x4 + 1))), (3, vI v24), (5, vI v6), (0, vR ad o), (1, vI x1), (2, vI x2)]) (n := 5) rfl D_Md_gave_2.1.2 (by decide) rfl rfl) ?_
            refine z_s I (s_goto (tgt := 5) D_Md_gave_2.2.1 rfl) ?_
            refine z_s I (s_lv (lv' := [(0, vR ad o), (1, vI x1), (2, vI x2), (3, vI v24), (4, vI (w32 (x4 + 1)))]) [3, 4, 5, 1, 0] rfl) ?_
            exact z_end (fun g => hin1_1 _ g ⟨f26, (inR_w32 _)⟩)
  have main : Z Y (m_Md_gave o x1 x2 h) G0 h 0 [(0, vR ad o), (1, vI x1), (2, vI x2)] [] := by
    unfold m_Md_gave
    refine z_s I (s_iconst (pc' := 1) D_Md_gave_0.1.1.1.1 rfl) ?_
    refine z_s I (s_istore_n (pc' := 2) (lv' := [(3, vI 0), (0, vR ad o), (1, vI x1), (2, vI x2)]) D_Md_gave_0.1.1.1.2 rfl (by decide) rfl rfl) ?_
    refine z_s I (s_iconst (pc' := 3) D_Md_gave_0.1.1.2.1 rfl) ?_
    refine z_s I (s_istore (pc' := 5) (lv' := [(4, vI 0), (3, vI 0), (0, vR ad o), (1, vI x1), (2, vI x2)]) D_Md_gave_0.1.1.2.2 (by decide) rfl rfl) ?_
    refine z_s I (s_lv (lv' := [(0, vR ad o), (1, vI x1), (2, vI x2), (3, vI 0), (4, vI 0)]) [2, 3, 4, 1, 0] rfl) ?_
    exact L5 _ ⟨(b01.R bz0), (b01.R bz0)⟩
  exact main _ hF (by rw [hG0])
set_option maxHeartbeats 4000000 in
set_option maxRecDepth 20000 in
theorem c_Md_of {l : Launch} {τ : TP} {o : Int} {x1 : Int} {x2 : Int} {h : HP} {r : Int} (hw : wf τ) (ao : ok τ (4, 10) o) (ax1 : inR x1) (ax2 : inR x2) (hh : hr τ h) (hF : m_Md_of o x1 x2 h = some r) : Ctr l y_Md_of k_Md_of 3 (Option.some FieldType.int) 2 46 τ (fun ad => [vR ad o, vI x1, vI x2]) h (some (vI r)) h (inR r) := by
  refine ctr_of (by decide) hw hh (fun ad => Nat.le_of_ble_eq_true rfl) (fun ad K Y I hK => ?_)
  obtain ⟨G0, hG0⟩ : ∃ G : Int → Prop, G = fun x => x = r := ⟨_, rfl⟩
  have gk0 : ∀ (x : Int), G0 x → inR x → K (some (vI x)) h := fun x g q => by
    rw [hG0] at g
    cases g
    exact hK q
  have main : Z Y (m_Md_of o x1 x2 h) G0 h 0 [(0, vR ad o), (1, vI x1), (2, vI x2)] [] := by
    unfold m_Md_of
    refine z_s I (s_aload_n (pc' := 1) 0 rfl D_Md_of_0.1.1.1.1 rfl rfl) ?_
    refine z_s I (s_iload_n (pc' := 2) 1 rfl D_Md_of_0.1.1.1.2 rfl rfl) ?_
    refine z_b1 (fun r3 q2 => ?_)
    refine z_callV (pc' := 5) I mv_Md_isOne ml_Md_126 (fun ad => [vI x1]) ⟨Nat.le_of_ble_eq_true rfl, Nat.le_of_ble_eq_true rfl⟩ ao (fun hh => c_Md_isOne hw ao ax1 hh q2) rfl rfl (Nat.le_of_ble_eq_true rfl) D_Md_of_0.1.1.2.1 rfl (fun f1 => ?_)
    refine z_if_ne (tgt := 10) (pc' := 8) I (b01.R f1) D_Md_of_0.1.1.2.2 rfl rfl (fun c4 => ?_) (fun c4 => ?_)
    · refine z_s I (s_iload_n (pc' := 11) 2 rfl D_Md_of_0.1.2.2.1 rfl rfl) ?_
      refine z_tin (tgt := 40) I ax2 D_Md_of_0.1.2.2.2 0 ⟨by decide, by decide⟩ rfl rfl (fun c5 => ?_) (fun c5 => ?_)
      · refine z_s I (s_aload_n (pc' := 41) 0 rfl D_Md_of_0.2.1.1.1 rfl rfl) ?_
        refine z_s I (s_iload_n (pc' := 42) 1 rfl D_Md_of_0.2.1.1.2 rfl rfl) ?_
        refine z_s I (s_iconst (pc' := 43) D_Md_of_0.2.1.2.1 rfl) ?_
        refine z_b1 (fun r8 q7 => ?_)
        refine z_callV (pc' := 46) I mv_Md_gave ml_Md_213 (fun ad => [vI x1, vI 0]) ⟨Nat.le_of_ble_eq_true rfl, Nat.le_of_ble_eq_true rfl⟩ ao (fun hh => c_Md_gave hw ao ax1 bz0 hh q7) rfl rfl (Nat.le_of_ble_eq_true rfl) D_Md_of_0.2.1.2.2 rfl (fun f6 => ?_)
        exact z_ret (w := some (vI r8)) I (fun g => gk0 _ g f6) ⟨_, rfl⟩ D_Md_of_0.2.2.1.1 rfl
      · skip
        refine z_tin (tgt := 47) I ax2 D_Md_of_0.1.2.2.2 1 ⟨by decide, by decide⟩ rfl rfl (fun c9 => ?_) (fun c9 => ?_)
        · refine z_s I (s_aload_n (pc' := 48) 0 rfl D_Md_of_0.2.2.1.2 rfl rfl) ?_
          refine z_s I (s_iload_n (pc' := 49) 1 rfl D_Md_of_0.2.2.2.1 rfl rfl) ?_
          refine z_s I (s_iconst (pc' := 50) D_Md_of_0.2.2.2.2 rfl) ?_
          refine z_b1 (fun r12 q11 => ?_)
          refine z_callV (pc' := 53) I mv_Md_gave ml_Md_213 (fun ad => [vI x1, vI 1]) ⟨Nat.le_of_ble_eq_true rfl, Nat.le_of_ble_eq_true rfl⟩ ao (fun hh => c_Md_gave hw ao ax1 bz1 hh q11) rfl rfl (Nat.le_of_ble_eq_true rfl) D_Md_of_1.1.1.1.1 rfl (fun f10 => ?_)
          exact z_ret (w := some (vI r12)) I (fun g => gk0 _ g f10) ⟨_, rfl⟩ D_Md_of_1.1.1.1.2 rfl
        · skip
          refine z_tin (tgt := 54) I ax2 D_Md_of_0.1.2.2.2 2 ⟨by decide, by decide⟩ rfl rfl (fun c13 => ?_) (fun c13 => ?_)
          · refine z_s I (s_aload_n (pc' := 55) 0 rfl D_Md_of_1.1.1.2.1 rfl rfl) ?_
            refine z_getR (pc' := 58) (eI := o + 5) I g_Md_28 ao rfl (by omega) D_Md_of_1.1.1.2.2 rfl ?_
            have k14 : ok τ (0, 8) (o + 5) := r_Md_row hw ao (by omega)
            refine z_s I (s_iload_n (pc' := 59) 1 rfl D_Md_of_1.1.2.1.1 rfl rfl) ?_
            refine z_iald (pc' := 60) (nI := 8) I k14 ax1 rfl D_Md_of_1.1.2.1.2 rfl (fun c15 f16 => ?_)
            refine z_b1 (fun r19 q18 => ?_)
            refine z_callS (pc' := 63) I mv_Md_told ml_Md_167 (fun ad => [vI (h (o + 5) x1)]) ⟨Nat.le_of_ble_eq_true rfl, Nat.le_of_ble_eq_true rfl⟩ (fun hh => c_Md_told hw f16 hh q18) rfl rfl (Nat.le_of_ble_eq_true rfl) D_Md_of_1.1.2.2.1 rfl (fun f17 => ?_)
            exact z_ret (w := some (vI r19)) I (fun g => gk0 _ g f17) ⟨_, rfl⟩ D_Md_of_1.1.2.2.2 rfl
          · skip
            refine z_tin (tgt := 64) I ax2 D_Md_of_0.1.2.2.2 3 ⟨by decide, by decide⟩ rfl rfl (fun c20 => ?_) (fun c20 => ?_)
            · refine z_s I (s_aload_n (pc' := 65) 0 rfl D_Md_of_1.2.1.1.1 rfl rfl) ?_
              refine z_getR (pc' := 68) (eI := o + 6) I g_Md_31 ao rfl (by omega) D_Md_of_1.2.1.1.2 rfl ?_
              have k21 : ok τ (0, 8) (o + 6) := r_Md_place hw ao (by omega)
              refine z_s I (s_iload_n (pc' := 69) 1 rfl D_Md_of_1.2.1.2.1 rfl rfl) ?_
              refine z_iald (pc' := 70) (nI := 8) I k21 ax1 rfl D_Md_of_1.2.1.2.2 rfl (fun c22 f23 => ?_)
              refine z_b1 (fun r26 q25 => ?_)
              refine z_callS (pc' := 73) I mv_Md_told ml_Md_167 (fun ad => [vI (h (o + 6) x1)]) ⟨Nat.le_of_ble_eq_true rfl, Nat.le_of_ble_eq_true rfl⟩ (fun hh => c_Md_told hw f23 hh q25) rfl rfl (Nat.le_of_ble_eq_true rfl) D_Md_of_1.2.2.1.1 rfl (fun f24 => ?_)
              exact z_ret (w := some (vI r26)) I (fun g => gk0 _ g f24) ⟨_, rfl⟩ D_Md_of_1.2.2.1.2 rfl
            · skip
              refine z_tout (tgt := 74) I ax2 D_Md_of_0.1.2.2.2 (by omega) rfl ?_
              refine z_s I (s_iconst (pc' := 75) D_Md_of_1.2.2.2.1 rfl) ?_
              exact z_ret (w := some (vI (-1))) I (fun g => gk0 _ g (inR_c (x := (-1)) rfl)) ⟨_, rfl⟩ D_Md_of_1.2.2.2.2 rfl
    · refine z_s I (s_iconst (pc' := 9) D_Md_of_0.1.2.1.1 rfl) ?_
      exact z_ret (w := some (vI (-1))) I (fun g => gk0 _ g (inR_c (x := (-1)) rfl)) ⟨_, rfl⟩ D_Md_of_0.1.2.1.2 rfl
  exact main _ hF (by rw [hG0])
set_option maxHeartbeats 4000000 in
set_option maxRecDepth 20000 in
theorem c_Md_gavers {l : Launch} {τ : TP} {o : Int} {x1 : Int} {x2 : Int} {x3 : Int} {x4 : Int} {h : HP} {r : Int} (hw : wf τ) (ao : ok τ (4, 10) o) (ax1 : inR x1) (ax2 : inR x2) (ax3 : inR x3) (ax4 : inR x4) (hh : hr τ h) (hF : m_Md_gavers o x1 x2 x3 x4 h = some r) : Ctr l y_Md_gavers k_Md_gavers 7 (Option.some FieldType.int) 0 0 τ (fun ad => [vR ad o, vI x1, vI x2, vI x3, vI x4]) h (some (vI r)) h (inR r) := by
  refine ctr_of (by decide) hw hh (fun ad => Nat.le_of_ble_eq_true rfl) (fun ad K Y I hK => ?_)
  obtain ⟨G0, hG0⟩ : ∃ G : Int → Prop, G = fun x => x = r := ⟨_, rfl⟩
  have gk0 : ∀ (x : Int), G0 x → inR x → K (some (vI x)) h := fun x g q => by
    rw [hG0] at g
    cases g
    exact hK q
  have L6 : ∀ (s : Int × Int), (inR (s.1) ∧ inR (s.2)) → Z Y (m_Md_gavers_L6 o x1 x2 x3 x4 h s) G0 h 6 [(0, vR ad o), (1, vI x1), (2, vI x2), (3, vI x3), (4, vI x4), (5, vI (s.1)), (6, vI (s.2))] [] := by
    intro s hs
    refine z_loop (G := G0) (hO := fun s : Int × Int => h) (lO := fun s : Int × Int => [(0, vR ad o), (1, vI x1), (2, vI x2), (3, vI x3), (4, vI x4), (5, vI (s.1)), (6, vI (s.2))]) (Φ := fun s : Int × Int => inR (s.1) ∧ inR (s.2)) (fun G1 hin1_1 hout1 s hs => ?_) FUEL s hs
    obtain ⟨x5, x6⟩ := s
    obtain ⟨ax5, ax6⟩ := hs
    have gk1 := fun (x : Int) (g : G1 (.inr (x))) (q : inR x) => gk0 x (hout1 _ g) q
    show Z Y (m_Md_gavers_L6b o x1 x2 x3 x4 h x5 x6) G1 h 6 [(0, vR ad o), (1, vI x1), (2, vI x2), (3, vI x3), (4, vI x4), (5, vI x5), (6, vI x6)] []
    unfold m_Md_gavers_L6b
    refine z_s I (s_iload (pc' := 8) 6 rfl D_Md_gavers_0.1.2.1.1 rfl) ?_
    refine z_s I (s_aload_n (pc' := 9) 0 rfl D_Md_gavers_0.1.2.1.2 rfl rfl) ?_
    refine z_getI (pc' := 12) (jI := 1) I g_Md_123 ao rfl rfl D_Md_gavers_0.1.2.2.1 rfl (fun f1 => ?_)
    refine z_icmp_ge (tgt := 60) (pc' := 15) I ax6 f1 D_Md_gavers_0.1.2.2.2 rfl rfl (fun c2 => ?_) (fun c2 => ?_)
    · refine z_s I (s_iload (pc' := 62) 5 rfl D_Md_gavers_2.1 rfl) ?_
      exact z_ret (w := some (vI x5)) I (fun g => gk1 _ g ax5) ⟨_, rfl⟩ D_Md_gavers_2.2 rfl
    · refine z_s I (s_iload (pc' := 17) 5 rfl D_Md_gavers_0.2.1.1.1 rfl) ?_
      refine z_s I (s_iload (pc' := 19) 6 rfl D_Md_gavers_0.2.1.1.2 rfl) ?_
      refine z_s I (s_iload_n (pc' := 20) 3 rfl D_Md_gavers_0.2.1.2.1 rfl rfl) ?_
      refine z_icmp_eq (tgt := 50) (pc' := 23) I ax6 ax3 D_Md_gavers_0.2.1.2.2 rfl rfl (fun c3 => ?_) (fun c3 => ?_)
      · refine z_s I (s_iconst (pc' := 51) D_Md_gavers_1.2.1.2.2 rfl) ?_
        refine z_s I (s_iadd (pc' := 52) D_Md_gavers_1.2.2.1.1 rfl) ?_
        refine z_bI (inR_w32 _) (fun v4 e5 f6 => ?_)
        refine z_s I (s_istore (pc' := 54) (lv' := [(5, vI v4), (0, vR ad o), (1, vI x1), (2, vI x2), (3, vI x3), (4, vI x4), (6, vI x6)]) D_Md_gavers_1.2.2.1.2 (by decide) rfl rfl) ?_
        refine z_s I (s_iinc (pc' := 57) (lv' := [(6, vI (w32 (x6 + 1))), (5, vI v4), (0, vR ad o), (1, vI x1), (2, vI x2), (3, vI x3), (4, vI x4)]) (n := 6) rfl D_Md_gavers_1.2.2.2.1 (by decide) rfl rfl) ?_
        refine z_s I (s_goto (tgt := 6) D_Md_gavers_1.2.2.2.2 rfl) ?_
        refine z_s I (s_lv (lv' := [(0, vR ad o), (1, vI x1), (2, vI x2), (3, vI x3), (4, vI x4), (5, vI v4), (6, vI (w32 (x6 + 1)))]) [2, 3, 4, 5, 6, 1, 0] rfl) ?_
        exact z_end (fun g => hin1_1 _ g ⟨f6, (inR_w32 _)⟩)
      · refine z_s I (s_iload (pc' := 25) 6 rfl D_Md_gavers_0.2.2.1.1 rfl) ?_
        refine z_s I (s_iload (pc' := 27) 4 rfl D_Md_gavers_0.2.2.1.2 rfl) ?_
        refine z_icmp_eq (tgt := 50) (pc' := 30) I ax6 ax4 D_Md_gavers_0.2.2.2.1 rfl rfl (fun c7 => ?_) (fun c7 => ?_)
        · refine z_s I (s_iconst (pc' := 51) D_Md_gavers_1.2.1.2.2 rfl) ?_
          refine z_s I (s_iadd (pc' := 52) D_Md_gavers_1.2.2.1.1 rfl) ?_
          refine z_bI (inR_w32 _) (fun v8 e9 f10 => ?_)
          refine z_s I (s_istore (pc' := 54) (lv' := [(5, vI v8), (0, vR ad o), (1, vI x1), (2, vI x2), (3, vI x3), (4, vI x4), (6, vI x6)]) D_Md_gavers_1.2.2.1.2 (by decide) rfl rfl) ?_
          refine z_s I (s_iinc (pc' := 57) (lv' := [(6, vI (w32 (x6 + 1))), (5, vI v8), (0, vR ad o), (1, vI x1), (2, vI x2), (3, vI x3), (4, vI x4)]) (n := 6) rfl D_Md_gavers_1.2.2.2.1 (by decide) rfl rfl) ?_
          refine z_s I (s_goto (tgt := 6) D_Md_gavers_1.2.2.2.2 rfl) ?_
          refine z_s I (s_lv (lv' := [(0, vR ad o), (1, vI x1), (2, vI x2), (3, vI x3), (4, vI x4), (5, vI v8), (6, vI (w32 (x6 + 1)))]) [2, 3, 4, 5, 6, 1, 0] rfl) ?_
          exact z_end (fun g => hin1_1 _ g ⟨f10, (inR_w32 _)⟩)
        · refine z_s I (s_aload_n (pc' := 31) 0 rfl D_Md_gavers_0.2.2.2.2 rfl rfl) ?_
          refine z_getR (pc' := 34) (eI := o + 4) I g_Md_25 ao rfl (by omega) D_Md_gavers_1.1.1.1.1 rfl ?_
          have k11 : ok τ (0, 64) (o + 4) := r_Md_given hw ao (by omega)
          refine z_s I (s_bipush (pc' := 36) D_Md_gavers_1.1.1.1.2 rfl rfl) ?_
          refine z_s I (s_iload (pc' := 38) 6 rfl D_Md_gavers_1.1.1.2.1 rfl) ?_
          refine z_s I (s_imul (pc' := 39) D_Md_gavers_1.1.1.2.2 rfl) ?_
          refine z_s I (s_iload_n (pc' := 40) 1 rfl D_Md_gavers_1.1.2.1.1 rfl rfl) ?_
          refine z_s I (s_iadd (pc' := 41) D_Md_gavers_1.1.2.1.2 rfl) ?_
          refine z_iald (pc' := 42) (nI := 64) I k11 (inR_w32 _) rfl D_Md_gavers_1.1.2.2.1 rfl (fun c12 f13 => ?_)
          refine z_s I (s_iload_n (pc' := 43) 2 rfl D_Md_gavers_1.1.2.2.2 rfl rfl) ?_
          refine z_icmp_ne (tgt := 50) (pc' := 46) I f13 ax2 D_Md_gavers_1.2.1.1.1 rfl rfl (fun c14 => ?_) (fun c14 => ?_)
          · refine z_s I (s_iconst (pc' := 51) D_Md_gavers_1.2.1.2.2 rfl) ?_
            refine z_s I (s_iadd (pc' := 52) D_Md_gavers_1.2.2.1.1 rfl) ?_
            refine z_bI (inR_w32 _) (fun v15 e16 f17 => ?_)
            refine z_s I (s_istore (pc' := 54) (lv' := [(5, vI v15), (0, vR ad o), (1, vI x1), (2, vI x2), (3, vI x3), (4, vI x4), (6, vI x6)]) D_Md_gavers_1.2.2.1.2 (by decide) rfl rfl) ?_
            refine z_s I (s_iinc (pc' := 57) (lv' := [(6, vI (w32 (x6 + 1))), (5, vI v15), (0, vR ad o), (1, vI x1), (2, vI x2), (3, vI x3), (4, vI x4)]) (n := 6) rfl D_Md_gavers_1.2.2.2.1 (by decide) rfl rfl) ?_
            refine z_s I (s_goto (tgt := 6) D_Md_gavers_1.2.2.2.2 rfl) ?_
            refine z_s I (s_lv (lv' := [(0, vR ad o), (1, vI x1), (2, vI x2), (3, vI x3), (4, vI x4), (5, vI v15), (6, vI (w32 (x6 + 1)))]) [2, 3, 4, 5, 6, 1, 0] rfl) ?_
            exact z_end (fun g => hin1_1 _ g ⟨f17, (inR_w32 _)⟩)
          · refine z_s I (s_iconst (pc' := 47) D_Md_gavers_1.2.1.1.2 rfl) ?_
            refine z_s I (s_goto (tgt := 51) D_Md_gavers_1.2.1.2.1 rfl) ?_
            refine z_s I (s_iadd (pc' := 52) D_Md_gavers_1.2.2.1.1 rfl) ?_
            refine z_bI (inR_w32 _) (fun v18 e19 f20 => ?_)
            refine z_s I (s_istore (pc' := 54) (lv' := [(5, vI v18), (0, vR ad o), (1, vI x1), (2, vI x2), (3, vI x3), (4, vI x4), (6, vI x6)]) D_Md_gavers_1.2.2.1.2 (by decide) rfl rfl) ?_
            refine z_s I (s_iinc (pc' := 57) (lv' := [(6, vI (w32 (x6 + 1))), (5, vI v18), (0, vR ad o), (1, vI x1), (2, vI x2), (3, vI x3), (4, vI x4)]) (n := 6) rfl D_Md_gavers_1.2.2.2.1 (by decide) rfl rfl) ?_
            refine z_s I (s_goto (tgt := 6) D_Md_gavers_1.2.2.2.2 rfl) ?_
            refine z_s I (s_lv (lv' := [(0, vR ad o), (1, vI x1), (2, vI x2), (3, vI x3), (4, vI x4), (5, vI v18), (6, vI (w32 (x6 + 1)))]) [2, 3, 4, 5, 6, 1, 0] rfl) ?_
            exact z_end (fun g => hin1_1 _ g ⟨f20, (inR_w32 _)⟩)
  have main : Z Y (m_Md_gavers o x1 x2 x3 x4 h) G0 h 0 [(0, vR ad o), (1, vI x1), (2, vI x2), (3, vI x3), (4, vI x4)] [] := by
    unfold m_Md_gavers
    refine z_s I (s_iconst (pc' := 1) D_Md_gavers_0.1.1.1.1 rfl) ?_
    refine z_s I (s_istore (pc' := 3) (lv' := [(5, vI 0), (0, vR ad o), (1, vI x1), (2, vI x2), (3, vI x3), (4, vI x4)]) D_Md_gavers_0.1.1.1.2 (by decide) rfl rfl) ?_
    refine z_s I (s_iconst (pc' := 4) D_Md_gavers_0.1.1.2.1 rfl) ?_
    refine z_s I (s_istore (pc' := 6) (lv' := [(6, vI 0), (5, vI 0), (0, vR ad o), (1, vI x1), (2, vI x2), (3, vI x3), (4, vI x4)]) D_Md_gavers_0.1.1.2.2 (by decide) rfl rfl) ?_
    refine z_s I (s_lv (lv' := [(0, vR ad o), (1, vI x1), (2, vI x2), (3, vI x3), (4, vI x4), (5, vI 0), (6, vI 0)]) [2, 3, 4, 5, 6, 1, 0] rfl) ?_
    exact L6 _ ⟨(b01.R bz0), (b01.R bz0)⟩
  exact main _ hF (by rw [hG0])
set_option maxHeartbeats 4000000 in
set_option maxRecDepth 20000 in
theorem c_Md_givers {l : Launch} {τ : TP} {o : Int} {x1 : Int} {h : HP} {r : Int} (hw : wf τ) (ao : ok τ (4, 10) o) (ax1 : inR x1) (hh : hr τ h) (hF : m_Md_givers o x1 h = some r) : Ctr l y_Md_givers k_Md_givers 2 (Option.some FieldType.int) 1 26 τ (fun ad => [vR ad o, vI x1]) h (some (vI r)) h (inR r) := by
  refine ctr_of (by decide) hw hh (fun ad => Nat.le_of_ble_eq_true rfl) (fun ad K Y I hK => ?_)
  obtain ⟨G0, hG0⟩ : ∃ G : Int → Prop, G = fun x => x = r := ⟨_, rfl⟩
  have gk0 : ∀ (x : Int), G0 x → inR x → K (some (vI x)) h := fun x g q => by
    rw [hG0] at g
    cases g
    exact hK q
  have main : Z Y (m_Md_givers o x1 h) G0 h 0 [(0, vR ad o), (1, vI x1)] [] := by
    unfold m_Md_givers
    refine z_s I (s_aload_n (pc' := 1) 0 rfl D_Md_givers_0.1.1.1 rfl rfl) ?_
    refine z_getI (pc' := 4) (jI := 1) I g_Md_123 ao rfl rfl D_Md_givers_0.1.1.2 rfl (fun f1 => ?_)
    refine z_s I (s_aload_n (pc' := 5) 0 rfl D_Md_givers_0.1.2.1 rfl rfl) ?_
    refine z_s I (s_iload_n (pc' := 6) 1 rfl D_Md_givers_0.1.2.2.1 rfl rfl) ?_
    refine z_s I (s_iconst (pc' := 7) D_Md_givers_0.1.2.2.2 rfl) ?_
    refine z_s I (s_iconst (pc' := 8) D_Md_givers_0.2.1.1 rfl) ?_
    refine z_s I (s_iconst (pc' := 9) D_Md_givers_0.2.1.2 rfl) ?_
    refine z_b1 (fun r4 q3 => ?_)
    refine z_callV (pc' := 12) I mv_Md_gavers ml_Md_217 (fun ad => [vI x1, vI (-1), vI (-1), vI (-1)]) ⟨Nat.le_of_ble_eq_true rfl, Nat.le_of_ble_eq_true rfl⟩ ao (fun hh => c_Md_gavers hw ao ax1 (inR_c (x := (-1)) rfl) (inR_c (x := (-1)) rfl) (inR_c (x := (-1)) rfl) hh q3) rfl rfl (Nat.le_of_ble_eq_true rfl) D_Md_givers_0.2.2.1 rfl (fun f2 => ?_)
    refine z_s I (s_isub (pc' := 13) D_Md_givers_0.2.2.2.1 rfl) ?_
    exact z_ret (w := some (vI (w32 ((h o 1) - r4)))) I (fun g => gk0 _ g (inR_w32 _)) ⟨_, rfl⟩ D_Md_givers_0.2.2.2.2 rfl
  exact main _ hF (by rw [hG0])
set_option maxHeartbeats 4000000 in
set_option maxRecDepth 20000 in
theorem c_Md_likedWrong {l : Launch} {τ : TP} {o : Int} {x1 : Int} {h : HP} {r : Int} (hw : wf τ) (ao : ok τ (4, 10) o) (ax1 : inR x1) (hh : hr τ h) (hF : m_Md_likedWrong o x1 h = some r) : Ctr l y_Md_likedWrong k_Md_likedWrong 4 (Option.some FieldType.int) 1 26 τ (fun ad => [vR ad o, vI x1]) h (some (vI r)) h (inR r) := by
  refine ctr_of (by decide) hw hh (fun ad => Nat.le_of_ble_eq_true rfl) (fun ad K Y I hK => ?_)
  obtain ⟨G0, hG0⟩ : ∃ G : Int → Prop, G = fun x => x = r := ⟨_, rfl⟩
  have gk0 : ∀ (x : Int), G0 x → inR x → K (some (vI x)) h := fun x g q => by
    rw [hG0] at g
    cases g
    exact hK q
  have L4 : ∀ (s : Int × Int), (inR (s.1) ∧ inR (s.2)) → Z Y (m_Md_likedWrong_L4 o x1 h s) G0 h 4 [(0, vR ad o), (1, vI x1), (2, vI (s.1)), (3, vI (s.2))] [] := by
    intro s hs
    refine z_loop (G := G0) (hO := fun s : Int × Int => h) (lO := fun s : Int × Int => [(0, vR ad o), (1, vI x1), (2, vI (s.1)), (3, vI (s.2))]) (Φ := fun s : Int × Int => inR (s.1) ∧ inR (s.2)) (fun G1 hin1_1 hout1 s hs => ?_) FUEL s hs
    obtain ⟨x2, x3⟩ := s
    obtain ⟨ax2, ax3⟩ := hs
    have gk1 := fun (x : Int) (g : G1 (.inr (x))) (q : inR x) => gk0 x (hout1 _ g) q
    show Z Y (m_Md_likedWrong_L4b o x1 h x2 x3) G1 h 4 [(0, vR ad o), (1, vI x1), (2, vI x2), (3, vI x3)] []
    unfold m_Md_likedWrong_L4b
    refine z_s I (s_iload_n (pc' := 5) 3 rfl D_Md_likedWrong_0.1.2.1.1 rfl rfl) ?_
    refine z_if_lt (tgt := 49) (pc' := 8) I ax3 D_Md_likedWrong_0.1.2.1.2 rfl rfl (fun c1 => ?_) (fun c1 => ?_)
    · refine z_s I (s_iload_n (pc' := 50) 2 rfl D_Md_likedWrong_1.2.2.2.2 rfl rfl) ?_
      exact z_ret (w := some (vI x2)) I (fun g => gk1 _ g ax2) ⟨_, rfl⟩ D_Md_likedWrong_2 rfl
    · refine z_s I (s_iload_n (pc' := 9) 3 rfl D_Md_likedWrong_0.1.2.2.1 rfl rfl) ?_
      refine z_s I (s_aload_n (pc' := 10) 0 rfl D_Md_likedWrong_0.1.2.2.2 rfl rfl) ?_
      refine z_getR (pc' := 13) (eI := o + 1) I g_Md_15 ao rfl (by omega) D_Md_likedWrong_0.2.1.1.1 rfl ?_
      have k2 : ok τ (0, 8) (o + 1) := r_Md_right hw ao (by omega)
      refine z_s I (s_iload_n (pc' := 14) 1 rfl D_Md_likedWrong_0.2.1.1.2 rfl rfl) ?_
      refine z_iald (pc' := 15) (nI := 8) I k2 ax1 rfl D_Md_likedWrong_0.2.1.2.1 rfl (fun c3 f4 => ?_)
      refine z_icmp_eq (tgt := 43) (pc' := 18) I ax3 f4 D_Md_likedWrong_0.2.1.2.2 rfl rfl (fun c5 => ?_) (fun c5 => ?_)
      · refine z_s I (s_iinc (pc' := 46) (lv' := [(3, vI (w32 (x3 + (-1)))), (0, vR ad o), (1, vI x1), (2, vI x2)]) (n := 3) rfl D_Md_likedWrong_1.2.2.1.2 (by decide) rfl rfl) ?_
        refine z_s I (s_goto (tgt := 4) D_Md_likedWrong_1.2.2.2.1 rfl) ?_
        refine z_s I (s_lv (lv' := [(0, vR ad o), (1, vI x1), (2, vI x2), (3, vI (w32 (x3 + (-1))))]) [1, 2, 3, 0] rfl) ?_
        exact z_end (fun g => hin1_1 _ g ⟨ax2, (inR_w32 _)⟩)
      · refine z_s I (s_iload_n (pc' := 19) 2 rfl D_Md_likedWrong_0.2.2.1.1 rfl rfl) ?_
        refine z_if_lt (tgt := 41) (pc' := 22) I ax2 D_Md_likedWrong_0.2.2.1.2 rfl rfl (fun c6 => ?_) (fun c6 => ?_)
        · refine z_s I (s_iload_n (pc' := 42) 3 rfl D_Md_likedWrong_1.2.1.2.2 rfl rfl) ?_
          refine z_s I (s_istore_n (pc' := 43) (lv' := [(2, vI x3), (0, vR ad o), (1, vI x1), (3, vI x3)]) D_Md_likedWrong_1.2.2.1.1 rfl (by decide) rfl rfl) ?_
          refine z_s I (s_iinc (pc' := 46) (lv' := [(3, vI (w32 (x3 + (-1)))), (2, vI x3), (0, vR ad o), (1, vI x1)]) (n := 3) rfl D_Md_likedWrong_1.2.2.1.2 (by decide) rfl rfl) ?_
          refine z_s I (s_goto (tgt := 4) D_Md_likedWrong_1.2.2.2.1 rfl) ?_
          refine z_s I (s_lv (lv' := [(0, vR ad o), (1, vI x1), (2, vI x3), (3, vI (w32 (x3 + (-1))))]) [2, 3, 1, 0] rfl) ?_
          exact z_end (fun g => hin1_1 _ g ⟨ax3, (inR_w32 _)⟩)
        · refine z_s I (s_aload_n (pc' := 23) 0 rfl D_Md_likedWrong_0.2.2.2.1 rfl rfl) ?_
          refine z_s I (s_iload_n (pc' := 24) 1 rfl D_Md_likedWrong_0.2.2.2.2 rfl rfl) ?_
          refine z_s I (s_iload_n (pc' := 25) 3 rfl D_Md_likedWrong_1.1.1.1.1 rfl rfl) ?_
          refine z_s I (s_iconst (pc' := 26) D_Md_likedWrong_1.1.1.1.2 rfl) ?_
          refine z_s I (s_iconst (pc' := 27) D_Md_likedWrong_1.1.1.2.1 rfl) ?_
          refine z_b1 (fun r9 q8 => ?_)
          refine z_callV (pc' := 30) I mv_Md_gavers ml_Md_217 (fun ad => [vI x1, vI x3, vI (-1), vI (-1)]) ⟨Nat.le_of_ble_eq_true rfl, Nat.le_of_ble_eq_true rfl⟩ ao (fun hh => c_Md_gavers hw ao ax1 ax3 (inR_c (x := (-1)) rfl) (inR_c (x := (-1)) rfl) hh q8) rfl rfl (Nat.le_of_ble_eq_true rfl) D_Md_likedWrong_1.1.1.2.2 rfl (fun f7 => ?_)
          refine z_s I (s_aload_n (pc' := 31) 0 rfl D_Md_likedWrong_1.1.2.1.1 rfl rfl) ?_
          refine z_s I (s_iload_n (pc' := 32) 1 rfl D_Md_likedWrong_1.1.2.1.2 rfl rfl) ?_
          refine z_s I (s_iload_n (pc' := 33) 2 rfl D_Md_likedWrong_1.1.2.2.1 rfl rfl) ?_
          refine z_s I (s_iconst (pc' := 34) D_Md_likedWrong_1.1.2.2.2 rfl) ?_
          refine z_s I (s_iconst (pc' := 35) D_Md_likedWrong_1.2.1.1.1 rfl) ?_
          refine z_b1 (fun r12 q11 => ?_)
          refine z_callV (pc' := 38) I mv_Md_gavers ml_Md_217 (fun ad => [vI x1, vI x2, vI (-1), vI (-1)]) ⟨Nat.le_of_ble_eq_true rfl, Nat.le_of_ble_eq_true rfl⟩ ao (fun hh => c_Md_gavers hw ao ax1 ax2 (inR_c (x := (-1)) rfl) (inR_c (x := (-1)) rfl) hh q11) rfl rfl (Nat.le_of_ble_eq_true rfl) D_Md_likedWrong_1.2.1.1.2 rfl (fun f10 => ?_)
          refine z_icmp_lt (tgt := 43) (pc' := 41) I f7 f10 D_Md_likedWrong_1.2.1.2.1 rfl rfl (fun c13 => ?_) (fun c13 => ?_)
          · refine z_s I (s_iinc (pc' := 46) (lv' := [(3, vI (w32 (x3 + (-1)))), (0, vR ad o), (1, vI x1), (2, vI x2)]) (n := 3) rfl D_Md_likedWrong_1.2.2.1.2 (by decide) rfl rfl) ?_
            refine z_s I (s_goto (tgt := 4) D_Md_likedWrong_1.2.2.2.1 rfl) ?_
            refine z_s I (s_lv (lv' := [(0, vR ad o), (1, vI x1), (2, vI x2), (3, vI (w32 (x3 + (-1))))]) [1, 2, 3, 0] rfl) ?_
            exact z_end (fun g => hin1_1 _ g ⟨ax2, (inR_w32 _)⟩)
          · refine z_s I (s_iload_n (pc' := 42) 3 rfl D_Md_likedWrong_1.2.1.2.2 rfl rfl) ?_
            refine z_s I (s_istore_n (pc' := 43) (lv' := [(2, vI x3), (0, vR ad o), (1, vI x1), (3, vI x3)]) D_Md_likedWrong_1.2.2.1.1 rfl (by decide) rfl rfl) ?_
            refine z_s I (s_iinc (pc' := 46) (lv' := [(3, vI (w32 (x3 + (-1)))), (2, vI x3), (0, vR ad o), (1, vI x1)]) (n := 3) rfl D_Md_likedWrong_1.2.2.1.2 (by decide) rfl rfl) ?_
            refine z_s I (s_goto (tgt := 4) D_Md_likedWrong_1.2.2.2.1 rfl) ?_
            refine z_s I (s_lv (lv' := [(0, vR ad o), (1, vI x1), (2, vI x3), (3, vI (w32 (x3 + (-1))))]) [2, 3, 1, 0] rfl) ?_
            exact z_end (fun g => hin1_1 _ g ⟨ax3, (inR_w32 _)⟩)
  have main : Z Y (m_Md_likedWrong o x1 h) G0 h 0 [(0, vR ad o), (1, vI x1)] [] := by
    unfold m_Md_likedWrong
    refine z_s I (s_iconst (pc' := 1) D_Md_likedWrong_0.1.1.1.1 rfl) ?_
    refine z_s I (s_istore_n (pc' := 2) (lv' := [(2, vI (-1)), (0, vR ad o), (1, vI x1)]) D_Md_likedWrong_0.1.1.1.2 rfl (by decide) rfl rfl) ?_
    refine z_s I (s_iconst (pc' := 3) D_Md_likedWrong_0.1.1.2.1 rfl) ?_
    refine z_s I (s_istore_n (pc' := 4) (lv' := [(3, vI 3), (2, vI (-1)), (0, vR ad o), (1, vI x1)]) D_Md_likedWrong_0.1.1.2.2 rfl (by decide) rfl rfl) ?_
    refine z_s I (s_lv (lv' := [(0, vR ad o), (1, vI x1), (2, vI (-1)), (3, vI 3)]) [2, 3, 1, 0] rfl) ?_
    exact L4 _ ⟨(inR_c (x := (-1)) rfl), (inR_c (x := 3) rfl)⟩
  exact main _ hF (by rw [hG0])
set_option maxHeartbeats 4000000 in
set_option maxRecDepth 20000 in
theorem c_Md_itemOf {l : Launch} {τ : TP} {o : Int} {x1 : Int} {x2 : Int} {h : HP} {r : Int} (hw : wf τ) (ao : ok τ (4, 10) o) (ax1 : inR x1) (ax2 : inR x2) (hh : hr τ h) (hF : m_Md_itemOf o x1 x2 h = some r) : Ctr l y_Md_itemOf k_Md_itemOf 3 (Option.some FieldType.int) 2 49 τ (fun ad => [vR ad o, vI x1, vI x2]) h (some (vI r)) h (inR r) := by
  refine ctr_of (by decide) hw hh (fun ad => Nat.le_of_ble_eq_true rfl) (fun ad K Y I hK => ?_)
  obtain ⟨G0, hG0⟩ : ∃ G : Int → Prop, G = fun x => x = r := ⟨_, rfl⟩
  have gk0 : ∀ (x : Int), G0 x → inR x → K (some (vI x)) h := fun x g q => by
    rw [hG0] at g
    cases g
    exact hK q
  have main : Z Y (m_Md_itemOf o x1 x2 h) G0 h 0 [(0, vR ad o), (1, vI x1), (2, vI x2)] [] := by
    unfold m_Md_itemOf
    refine z_s I (s_aload_n (pc' := 1) 0 rfl D_Md_itemOf_0.1.1.1.1 rfl rfl) ?_
    refine z_s I (s_iload_n (pc' := 2) 1 rfl D_Md_itemOf_0.1.1.1.2 rfl rfl) ?_
    refine z_b1 (fun r3 q2 => ?_)
    refine z_callV (pc' := 5) I mv_Md_isItem ml_Md_160 (fun ad => [vI x1]) ⟨Nat.le_of_ble_eq_true rfl, Nat.le_of_ble_eq_true rfl⟩ ao (fun hh => c_Md_isItem hw ao ax1 hh q2) rfl rfl (Nat.le_of_ble_eq_true rfl) D_Md_itemOf_0.1.1.2.1 rfl (fun f1 => ?_)
    refine z_if_ne (tgt := 10) (pc' := 8) I (b01.R f1) D_Md_itemOf_0.1.1.2.2 rfl rfl (fun c4 => ?_) (fun c4 => ?_)
    · refine z_s I (s_iload_n (pc' := 11) 2 rfl D_Md_itemOf_0.1.2.2.1 rfl rfl) ?_
      refine z_tin (tgt := 44) I ax2 D_Md_itemOf_0.1.2.2.2 0 ⟨by decide, by decide⟩ rfl rfl (fun c5 => ?_) (fun c5 => ?_)
      · refine z_s I (s_aload_n (pc' := 45) 0 rfl D_Md_itemOf_0.2.1.1.1 rfl rfl) ?_
        refine z_getR (pc' := 48) (eI := o + 1) I g_Md_15 ao rfl (by omega) D_Md_itemOf_0.2.1.1.2 rfl ?_
        have k6 : ok τ (0, 8) (o + 1) := r_Md_right hw ao (by omega)
        refine z_s I (s_iload_n (pc' := 49) 1 rfl D_Md_itemOf_0.2.1.2.1 rfl rfl) ?_
        refine z_iald (pc' := 50) (nI := 8) I k6 ax1 rfl D_Md_itemOf_0.2.1.2.2 rfl (fun c7 f8 => ?_)
        exact z_ret (w := some (vI (h (o + 1) x1))) I (fun g => gk0 _ g f8) ⟨_, rfl⟩ D_Md_itemOf_0.2.2.1.1 rfl
      · skip
        refine z_tin (tgt := 51) I ax2 D_Md_itemOf_0.1.2.2.2 1 ⟨by decide, by decide⟩ rfl rfl (fun c9 => ?_) (fun c9 => ?_)
        · refine z_s I (s_aload_n (pc' := 52) 0 rfl D_Md_itemOf_0.2.2.1.2 rfl rfl) ?_
          refine z_getR (pc' := 55) (eI := o + 2) I g_Md_19 ao rfl (by omega) D_Md_itemOf_0.2.2.2.1 rfl ?_
          have k10 : ok τ (0, 8) (o + 2) := r_Md_kind hw ao (by omega)
          refine z_s I (s_iload_n (pc' := 56) 1 rfl D_Md_itemOf_0.2.2.2.2 rfl rfl) ?_
          refine z_iald (pc' := 57) (nI := 8) I k10 ax1 rfl D_Md_itemOf_1.1.1.1.1 rfl (fun c11 f12 => ?_)
          exact z_ret (w := some (vI (h (o + 2) x1))) I (fun g => gk0 _ g f12) ⟨_, rfl⟩ D_Md_itemOf_1.1.1.1.2 rfl
        · skip
          refine z_tin (tgt := 58) I ax2 D_Md_itemOf_0.1.2.2.2 2 ⟨by decide, by decide⟩ rfl rfl (fun c13 => ?_) (fun c13 => ?_)
          · refine z_s I (s_aload_n (pc' := 59) 0 rfl D_Md_itemOf_1.1.1.2.1 rfl rfl) ?_
            refine z_s I (s_iload_n (pc' := 60) 1 rfl D_Md_itemOf_1.1.1.2.2 rfl rfl) ?_
            refine z_b1 (fun r16 q15 => ?_)
            refine z_callV (pc' := 63) I mv_Md_givers ml_Md_221 (fun ad => [vI x1]) ⟨Nat.le_of_ble_eq_true rfl, Nat.le_of_ble_eq_true rfl⟩ ao (fun hh => c_Md_givers hw ao ax1 hh q15) rfl rfl (Nat.le_of_ble_eq_true rfl) D_Md_itemOf_1.1.2.1.1 rfl (fun f14 => ?_)
            exact z_ret (w := some (vI r16)) I (fun g => gk0 _ g f14) ⟨_, rfl⟩ D_Md_itemOf_1.1.2.1.2 rfl
          · skip
            refine z_tin (tgt := 64) I ax2 D_Md_itemOf_0.1.2.2.2 3 ⟨by decide, by decide⟩ rfl rfl (fun c17 => ?_) (fun c17 => ?_)
            · refine z_s I (s_aload_n (pc' := 65) 0 rfl D_Md_itemOf_1.1.2.2.1 rfl rfl) ?_
              refine z_s I (s_iload_n (pc' := 66) 1 rfl D_Md_itemOf_1.1.2.2.2 rfl rfl) ?_
              refine z_b1 (fun r20 q19 => ?_)
              refine z_callV (pc' := 69) I mv_Md_givers ml_Md_221 (fun ad => [vI x1]) ⟨Nat.le_of_ble_eq_true rfl, Nat.le_of_ble_eq_true rfl⟩ ao (fun hh => c_Md_givers hw ao ax1 hh q19) rfl rfl (Nat.le_of_ble_eq_true rfl) D_Md_itemOf_1.2.1.1.1 rfl (fun f18 => ?_)
              refine z_s I (s_aload_n (pc' := 70) 0 rfl D_Md_itemOf_1.2.1.1.2 rfl rfl) ?_
              refine z_s I (s_iload_n (pc' := 71) 1 rfl D_Md_itemOf_1.2.1.2.1 rfl rfl) ?_
              refine z_s I (s_aload_n (pc' := 72) 0 rfl D_Md_itemOf_1.2.1.2.2 rfl rfl) ?_
              refine z_getR (pc' := 75) (eI := o + 1) I g_Md_15 ao rfl (by omega) D_Md_itemOf_1.2.2.1.1 rfl ?_
              have k21 : ok τ (0, 8) (o + 1) := r_Md_right hw ao (by omega)
              refine z_s I (s_iload_n (pc' := 76) 1 rfl D_Md_itemOf_1.2.2.1.2 rfl rfl) ?_
              refine z_iald (pc' := 77) (nI := 8) I k21 ax1 rfl D_Md_itemOf_1.2.2.2.1 rfl (fun c22 f23 => ?_)
              refine z_s I (s_iconst (pc' := 78) D_Md_itemOf_1.2.2.2.2 rfl) ?_
              refine z_s I (s_iconst (pc' := 79) D_Md_itemOf_2.1.1.1 rfl) ?_
              refine z_b1 (fun r26 q25 => ?_)
              refine z_callV (pc' := 82) I mv_Md_gavers ml_Md_217 (fun ad => [vI x1, vI (h (o + 1) x1), vI (-1), vI (-1)]) ⟨Nat.le_of_ble_eq_true rfl, Nat.le_of_ble_eq_true rfl⟩ ao (fun hh => c_Md_gavers hw ao ax1 f23 (inR_c (x := (-1)) rfl) (inR_c (x := (-1)) rfl) hh q25) rfl rfl (Nat.le_of_ble_eq_true rfl) D_Md_itemOf_2.1.1.2 rfl (fun f24 => ?_)
              refine z_s I (s_isub (pc' := 83) D_Md_itemOf_2.1.2.1 rfl) ?_
              exact z_ret (w := some (vI (w32 (r20 - r26)))) I (fun g => gk0 _ g (inR_w32 _)) ⟨_, rfl⟩ D_Md_itemOf_2.1.2.2.1 rfl
            · skip
              refine z_tin (tgt := 84) I ax2 D_Md_itemOf_0.1.2.2.2 4 ⟨by decide, by decide⟩ rfl rfl (fun c27 => ?_) (fun c27 => ?_)
              · refine z_s I (s_aload_n (pc' := 85) 0 rfl D_Md_itemOf_2.1.2.2.2 rfl rfl) ?_
                refine z_s I (s_iload_n (pc' := 86) 1 rfl D_Md_itemOf_2.2.1.1 rfl rfl) ?_
                refine z_b1 (fun r30 q29 => ?_)
                refine z_callV (pc' := 89) I mv_Md_likedWrong ml_Md_224 (fun ad => [vI x1]) ⟨Nat.le_of_ble_eq_true rfl, Nat.le_of_ble_eq_true rfl⟩ ao (fun hh => c_Md_likedWrong hw ao ax1 hh q29) rfl rfl (Nat.le_of_ble_eq_true rfl) D_Md_itemOf_2.2.1.2 rfl (fun f28 => ?_)
                exact z_ret (w := some (vI r30)) I (fun g => gk0 _ g f28) ⟨_, rfl⟩ D_Md_itemOf_2.2.2.1 rfl
              · skip
                refine z_tout (tgt := 90) I ax2 D_Md_itemOf_0.1.2.2.2 (by omega) rfl ?_
                refine z_s I (s_iconst (pc' := 91) D_Md_itemOf_2.2.2.2.1 rfl) ?_
                exact z_ret (w := some (vI (-1))) I (fun g => gk0 _ g (inR_c (x := (-1)) rfl)) ⟨_, rfl⟩ D_Md_itemOf_2.2.2.2.2 rfl
    · refine z_s I (s_iconst (pc' := 9) D_Md_itemOf_0.1.2.1.1 rfl) ?_
      exact z_ret (w := some (vI (-1))) I (fun g => gk0 _ g (inR_c (x := (-1)) rfl)) ⟨_, rfl⟩ D_Md_itemOf_0.1.2.1.2 rfl
  exact main _ hF (by rw [hG0])
set_option maxHeartbeats 4000000 in
set_option maxRecDepth 20000 in
theorem c_Md_taken {l : Launch} {τ : TP} {o : Int} {x1 : Int} {x2 : Int} {h : HP} {r : Int} (hw : wf τ) (ao : ok τ (4, 10) o) (ax1 : inR x1) (ax2 : inR x2) (hh : hr τ h) (hF : m_Md_taken o x1 x2 h = some r) : Ctr l y_Md_taken k_Md_taken 4 (Option.some FieldType.int) 2 46 τ (fun ad => [vR ad o, vI x1, vI x2]) h (some (vI r)) h (inR r) := by
  refine ctr_of (by decide) hw hh (fun ad => Nat.le_of_ble_eq_true rfl) (fun ad K Y I hK => ?_)
  obtain ⟨G0, hG0⟩ : ∃ G : Int → Prop, G = fun x => x = r := ⟨_, rfl⟩
  have gk0 : ∀ (x : Int), G0 x → inR x → K (some (vI x)) h := fun x g q => by
    rw [hG0] at g
    cases g
    exact hK q
  have main : Z Y (m_Md_taken o x1 x2 h) G0 h 0 [(0, vR ad o), (1, vI x1), (2, vI x2)] [] := by
    unfold m_Md_taken
    refine z_s I (s_aload_n (pc' := 1) 0 rfl D_Md_taken_0.1.1.1.1 rfl rfl) ?_
    refine z_s I (s_iload_n (pc' := 2) 1 rfl D_Md_taken_0.1.1.1.2 rfl rfl) ?_
    refine z_b1 (fun r3 q2 => ?_)
    refine z_callV (pc' := 5) I mv_Md_isItem ml_Md_160 (fun ad => [vI x1]) ⟨Nat.le_of_ble_eq_true rfl, Nat.le_of_ble_eq_true rfl⟩ ao (fun hh => c_Md_isItem hw ao ax1 hh q2) rfl rfl (Nat.le_of_ble_eq_true rfl) D_Md_taken_0.1.1.2.1 rfl (fun f1 => ?_)
    refine z_if_ne (tgt := 10) (pc' := 8) I (b01.R f1) D_Md_taken_0.1.1.2.2 rfl rfl (fun c4 => ?_) (fun c4 => ?_)
    · refine z_s I (s_aload_n (pc' := 11) 0 rfl D_Md_taken_0.1.2.2.1 rfl rfl) ?_
      refine z_getR (pc' := 14) (eI := o + 2) I g_Md_19 ao rfl (by omega) D_Md_taken_0.1.2.2.2 rfl ?_
      have k5 : ok τ (0, 8) (o + 2) := r_Md_kind hw ao (by omega)
      refine z_s I (s_iload_n (pc' := 15) 1 rfl D_Md_taken_0.2.1.1.1 rfl rfl) ?_
      refine z_iald (pc' := 16) (nI := 8) I k5 ax1 rfl D_Md_taken_0.2.1.1.2 rfl (fun c6 f7 => ?_)
      refine z_bI f7 (fun v8 e9 f10 => ?_)
      refine z_s I (s_istore_n (pc' := 17) (lv' := [(3, vI v8), (0, vR ad o), (1, vI x1), (2, vI x2)]) D_Md_taken_0.2.1.2.1 rfl (by decide) rfl rfl) ?_
      refine z_s I (s_iload_n (pc' := 18) 3 rfl D_Md_taken_0.2.1.2.2 rfl rfl) ?_
      refine z_tin (tgt := 52) I ax2 D_Md_taken_0.2.2.1.1 0 ⟨by decide, by decide⟩ rfl rfl (fun c11 => ?_) (fun c11 => ?_)
      · refine z_s I (s_iload_n (pc' := 53) 0 rfl D_Md_taken_0.2.2.1.2 rfl rfl) ?_
        exact z_ret (w := some (vI v8)) I (fun g => gk0 _ g f10) ⟨_, rfl⟩ D_Md_taken_0.2.2.2.1 rfl
      · skip
        refine z_tin (tgt := 54) I ax2 D_Md_taken_0.2.2.1.1 1 ⟨by decide, by decide⟩ rfl rfl (fun c12 => ?_) (fun c12 => ?_)
        · refine z_s I (s_iload_n (pc' := 55) 0 rfl D_Md_taken_0.2.2.2.2 rfl rfl) ?_
          refine z_s I (s_iconst (pc' := 56) D_Md_taken_1.1.1.1.1 rfl) ?_
          refine z_icmp_ge (tgt := 63) (pc' := 59) I f10 (inR_c (x := 2) rfl) D_Md_taken_1.1.1.1.2 rfl rfl (fun c13 => ?_) (fun c13 => ?_)
          · refine z_s I (s_bipush (pc' := 65) D_Md_taken_1.1.2.1.1 rfl rfl) ?_
            exact z_ret (w := some (vI (-12))) I (fun g => gk0 _ g (inR_c (x := (-12)) rfl)) ⟨_, rfl⟩ D_Md_taken_1.1.2.1.2 rfl
          · refine z_s I (s_iload_n (pc' := 60) 0 rfl D_Md_taken_1.1.1.2.1 rfl rfl) ?_
            refine z_s I (s_goto (tgt := 65) D_Md_taken_1.1.1.2.2 rfl) ?_
            exact z_ret (w := some (vI v8)) I (fun g => gk0 _ g f10) ⟨_, rfl⟩ D_Md_taken_1.1.2.1.2 rfl
        · skip
          refine z_tin (tgt := 66) I ax2 D_Md_taken_0.2.2.1.1 2 ⟨by decide, by decide⟩ rfl rfl (fun c14 => ?_) (fun c14 => ?_)
          · refine z_s I (s_iload_n (pc' := 67) 0 rfl D_Md_taken_1.1.2.2.1 rfl rfl) ?_
            refine z_s I (s_iconst (pc' := 68) D_Md_taken_1.1.2.2.2 rfl) ?_
            refine z_icmp_ne (tgt := 75) (pc' := 71) I f10 (b01.R bz1) D_Md_taken_1.2.1.1.1 rfl rfl (fun c15 => ?_) (fun c15 => ?_)
            · refine z_s I (s_bipush (pc' := 77) D_Md_taken_1.2.1.2.2 rfl rfl) ?_
              exact z_ret (w := some (vI (-12))) I (fun g => gk0 _ g (inR_c (x := (-12)) rfl)) ⟨_, rfl⟩ D_Md_taken_1.2.2.1.1 rfl
            · refine z_s I (s_iload_n (pc' := 72) 0 rfl D_Md_taken_1.2.1.1.2 rfl rfl) ?_
              refine z_s I (s_goto (tgt := 77) D_Md_taken_1.2.1.2.1 rfl) ?_
              exact z_ret (w := some (vI v8)) I (fun g => gk0 _ g f10) ⟨_, rfl⟩ D_Md_taken_1.2.2.1.1 rfl
          · skip
            refine z_tin (tgt := 78) I ax2 D_Md_taken_0.2.2.1.1 3 ⟨by decide, by decide⟩ rfl rfl (fun c16 => ?_) (fun c16 => ?_)
            · refine z_s I (s_iload_n (pc' := 79) 0 rfl D_Md_taken_1.2.2.1.2 rfl rfl) ?_
              refine z_s I (s_iconst (pc' := 80) D_Md_taken_1.2.2.2.1 rfl) ?_
              refine z_icmp_le (tgt := 87) (pc' := 83) I f10 (b01.R bz1) D_Md_taken_1.2.2.2.2 rfl rfl (fun c17 => ?_) (fun c17 => ?_)
              · refine z_s I (s_bipush (pc' := 89) D_Md_taken_2.1.1.2.2 rfl rfl) ?_
                exact z_ret (w := some (vI (-12))) I (fun g => gk0 _ g (inR_c (x := (-12)) rfl)) ⟨_, rfl⟩ D_Md_taken_2.1.2.1 rfl
              · refine z_s I (s_iload_n (pc' := 84) 0 rfl D_Md_taken_2.1.1.1 rfl rfl) ?_
                refine z_s I (s_goto (tgt := 89) D_Md_taken_2.1.1.2.1 rfl) ?_
                exact z_ret (w := some (vI v8)) I (fun g => gk0 _ g f10) ⟨_, rfl⟩ D_Md_taken_2.1.2.1 rfl
            · skip
              refine z_tin (tgt := 90) I ax2 D_Md_taken_0.2.2.1.1 4 ⟨by decide, by decide⟩ rfl rfl (fun c18 => ?_) (fun c18 => ?_)
              · refine z_s I (s_iload_n (pc' := 91) 0 rfl D_Md_taken_2.1.2.2.1 rfl rfl) ?_
                refine z_s I (s_iconst (pc' := 92) D_Md_taken_2.1.2.2.2 rfl) ?_
                refine z_icmp_ne (tgt := 99) (pc' := 95) I f10 (inR_c (x := 3) rfl) D_Md_taken_2.2.1.1 rfl rfl (fun c19 => ?_) (fun c19 => ?_)
                · refine z_s I (s_bipush (pc' := 101) D_Md_taken_2.2.2.1.1 rfl rfl) ?_
                  exact z_ret (w := some (vI (-12))) I (fun g => gk0 _ g (inR_c (x := (-12)) rfl)) ⟨_, rfl⟩ D_Md_taken_2.2.2.1.2 rfl
                · refine z_s I (s_iload_n (pc' := 96) 0 rfl D_Md_taken_2.2.1.2.1 rfl rfl) ?_
                  refine z_s I (s_goto (tgt := 101) D_Md_taken_2.2.1.2.2 rfl) ?_
                  exact z_ret (w := some (vI v8)) I (fun g => gk0 _ g f10) ⟨_, rfl⟩ D_Md_taken_2.2.2.1.2 rfl
              · skip
                refine z_tout (tgt := 102) I ax2 D_Md_taken_0.2.2.1.1 (by omega) rfl ?_
                refine z_s I (s_bipush (pc' := 104) D_Md_taken_2.2.2.2.1 rfl rfl) ?_
                exact z_ret (w := some (vI (-2))) I (fun g => gk0 _ g (inR_c (x := (-2)) rfl)) ⟨_, rfl⟩ D_Md_taken_2.2.2.2.2 rfl
    · refine z_s I (s_iconst (pc' := 9) D_Md_taken_0.1.2.1.1 rfl) ?_
      exact z_ret (w := some (vI (-1))) I (fun g => gk0 _ g (inR_c (x := (-1)) rfl)) ⟨_, rfl⟩ D_Md_taken_0.1.2.1.2 rfl
  exact main _ hF (by rw [hG0])
set_option maxHeartbeats 4000000 in
set_option maxRecDepth 20000 in
theorem c_Md_shareOf {l : Launch} {τ : TP} {o : Int} {x1 : Int} {x2 : Int} {x3 : Int} {x4 : Int} {h : HP} {r : Int} (hw : wf τ) (ao : ok τ (4, 10) o) (ax1 : inR x1) (ax2 : inR x2) (ax3 : inR x3) (ax4 : inR x4) (hh : hr τ h) (hF : m_Md_shareOf o x1 x2 x3 x4 h = some r) : Ctr l y_Md_shareOf k_Md_shareOf 5 (Option.some FieldType.int) 1 26 τ (fun ad => [vR ad o, vI x1, vI x2, vI x3, vI x4]) h (some (vI r)) h (inR r) := by
  refine ctr_of (by decide) hw hh (fun ad => Nat.le_of_ble_eq_true rfl) (fun ad K Y I hK => ?_)
  obtain ⟨G0, hG0⟩ : ∃ G : Int → Prop, G = fun x => x = r := ⟨_, rfl⟩
  have gk0 : ∀ (x : Int), G0 x → inR x → K (some (vI x)) h := fun x g q => by
    rw [hG0] at g
    cases g
    exact hK q
  have main : Z Y (m_Md_shareOf o x1 x2 x3 x4 h) G0 h 0 [(0, vR ad o), (1, vI x1), (2, vI x2), (3, vI x3), (4, vI x4)] [] := by
    unfold m_Md_shareOf
    refine z_s I (s_aload_n (pc' := 1) 0 rfl D_Md_shareOf_0.1.1.1.1 rfl rfl) ?_
    refine z_getR (pc' := 4) (eI := o + 2) I g_Md_19 ao rfl (by omega) D_Md_shareOf_0.1.1.1.2 rfl ?_
    have k1 : ok τ (0, 8) (o + 2) := r_Md_kind hw ao (by omega)
    refine z_s I (s_iload_n (pc' := 5) 1 rfl D_Md_shareOf_0.1.1.2.1 rfl rfl) ?_
    refine z_iald (pc' := 6) (nI := 8) I k1 ax1 rfl D_Md_shareOf_0.1.1.2.2 rfl (fun c2 f3 => ?_)
    refine z_tin (tgt := 32) I f3 D_Md_shareOf_0.1.2.1.1 0 ⟨by decide, by decide⟩ rfl rfl (fun c4 => ?_) (fun c4 => ?_)
    · refine z_s I (s_iconst (pc' := 33) D_Md_shareOf_0.1.2.1.2 rfl) ?_
      exact z_ret (w := some (vI 1)) I (fun g => gk0 _ g (b01.R bz1)) ⟨_, rfl⟩ D_Md_shareOf_0.1.2.2.1 rfl
    · skip
      refine z_tin (tgt := 34) I f3 D_Md_shareOf_0.1.2.1.1 1 ⟨by decide, by decide⟩ rfl rfl (fun c5 => ?_) (fun c5 => ?_)
      · refine z_s I (s_aload_n (pc' := 35) 0 rfl D_Md_shareOf_0.1.2.2.2 rfl rfl) ?_
        refine z_getR (pc' := 38) (eI := o + 3) I g_Md_22 ao rfl (by omega) D_Md_shareOf_0.2.1.1.1 rfl ?_
        have k6 : ok τ (0, 32) (o + 3) := r_Md_parts hw ao (by omega)
        refine z_s I (s_iconst (pc' := 39) D_Md_shareOf_0.2.1.1.2 rfl) ?_
        refine z_s I (s_iload_n (pc' := 40) 1 rfl D_Md_shareOf_0.2.1.2.1 rfl rfl) ?_
        refine z_s I (s_imul (pc' := 41) D_Md_shareOf_0.2.1.2.2 rfl) ?_
        refine z_s I (s_iload_n (pc' := 42) 2 rfl D_Md_shareOf_0.2.2.1.1 rfl rfl) ?_
        refine z_s I (s_iadd (pc' := 43) D_Md_shareOf_0.2.2.1.2 rfl) ?_
        refine z_iald (pc' := 44) (nI := 32) I k6 (inR_w32 _) rfl D_Md_shareOf_0.2.2.2.1 rfl (fun c7 f8 => ?_)
        exact z_ret (w := some (vI (h (o + 3) (w32 ((w32 (4 * x1)) + x2))))) I (fun g => gk0 _ g f8) ⟨_, rfl⟩ D_Md_shareOf_0.2.2.2.2 rfl
      · skip
        refine z_tin (tgt := 45) I f3 D_Md_shareOf_0.1.2.1.1 2 ⟨by decide, by decide⟩ rfl rfl (fun c9 => ?_) (fun c9 => ?_)
        · refine z_s I (s_iconst (pc' := 46) D_Md_shareOf_1.1.1.1.1 rfl) ?_
          refine z_s I (s_aload_n (pc' := 47) 0 rfl D_Md_shareOf_1.1.1.1.2 rfl rfl) ?_
          refine z_s I (s_iload_n (pc' := 48) 1 rfl D_Md_shareOf_1.1.1.2.1 rfl rfl) ?_
          refine z_s I (s_iload_n (pc' := 49) 2 rfl D_Md_shareOf_1.1.1.2.2 rfl rfl) ?_
          refine z_s I (s_iconst (pc' := 50) D_Md_shareOf_1.1.2.1.1 rfl) ?_
          refine z_s I (s_iconst (pc' := 51) D_Md_shareOf_1.1.2.1.2 rfl) ?_
          refine z_b1 (fun r12 q11 => ?_)
          refine z_callV (pc' := 54) I mv_Md_gavers ml_Md_217 (fun ad => [vI x1, vI x2, vI (-1), vI (-1)]) ⟨Nat.le_of_ble_eq_true rfl, Nat.le_of_ble_eq_true rfl⟩ ao (fun hh => c_Md_gavers hw ao ax1 ax2 (inR_c (x := (-1)) rfl) (inR_c (x := (-1)) rfl) hh q11) rfl rfl (Nat.le_of_ble_eq_true rfl) D_Md_shareOf_1.1.2.2.1 rfl (fun f10 => ?_)
          refine z_s I (s_iadd (pc' := 55) D_Md_shareOf_1.1.2.2.2 rfl) ?_
          exact z_ret (w := some (vI (w32 (1 + r12)))) I (fun g => gk0 _ g (inR_w32 _)) ⟨_, rfl⟩ D_Md_shareOf_1.2.1.1.1 rfl
        · skip
          refine z_tout (tgt := 56) I f3 D_Md_shareOf_0.1.2.1.1 (by omega) rfl ?_
          refine z_s I (s_iconst (pc' := 57) D_Md_shareOf_1.2.1.1.2 rfl) ?_
          refine z_s I (s_aload_n (pc' := 58) 0 rfl D_Md_shareOf_1.2.1.2.1 rfl rfl) ?_
          refine z_s I (s_iload_n (pc' := 59) 1 rfl D_Md_shareOf_1.2.1.2.2 rfl rfl) ?_
          refine z_s I (s_iload_n (pc' := 60) 2 rfl D_Md_shareOf_1.2.2.1.1 rfl rfl) ?_
          refine z_s I (s_iload_n (pc' := 61) 3 rfl D_Md_shareOf_1.2.2.1.2 rfl rfl) ?_
          refine z_s I (s_iload (pc' := 63) 4 rfl D_Md_shareOf_1.2.2.2.1 rfl) ?_
          refine z_b1 (fun r15 q14 => ?_)
          refine z_callV (pc' := 66) I mv_Md_gavers ml_Md_217 (fun ad => [vI x1, vI x2, vI x3, vI x4]) ⟨Nat.le_of_ble_eq_true rfl, Nat.le_of_ble_eq_true rfl⟩ ao (fun hh => c_Md_gavers hw ao ax1 ax2 ax3 ax4 hh q14) rfl rfl (Nat.le_of_ble_eq_true rfl) D_Md_shareOf_1.2.2.2.2 rfl (fun f13 => ?_)
          refine z_s I (s_iadd (pc' := 67) D_Md_shareOf_2.1 rfl) ?_
          exact z_ret (w := some (vI (w32 (1 + r15)))) I (fun g => gk0 _ g (inR_w32 _)) ⟨_, rfl⟩ D_Md_shareOf_2.2 rfl
  exact main _ hF (by rw [hG0])
set_option maxHeartbeats 4000000 in
set_option maxRecDepth 20000 in
theorem c_Md_sumBut {l : Launch} {τ : TP} {o : Int} {x1 : Int} {x2 : Int} {x3 : Int} {x4 : Int} {h : HP} {r : Int} (hw : wf τ) (ao : ok τ (4, 10) o) (ax1 : inR x1) (ax2 : inR x2) (ax3 : inR x3) (ax4 : inR x4) (hh : hr τ h) (hF : m_Md_sumBut o x1 x2 x3 x4 h = some r) : Ctr l y_Md_sumBut k_Md_sumBut 7 (Option.some FieldType.int) 2 50 τ (fun ad => [vR ad o, vI x1, vI x2, vI x3, vI x4]) h (some (vI r)) h (inR r) := by
  refine ctr_of (by decide) hw hh (fun ad => Nat.le_of_ble_eq_true rfl) (fun ad K Y I hK => ?_)
  obtain ⟨G0, hG0⟩ : ∃ G : Int → Prop, G = fun x => x = r := ⟨_, rfl⟩
  have gk0 : ∀ (x : Int), G0 x → inR x → K (some (vI x)) h := fun x g q => by
    rw [hG0] at g
    cases g
    exact hK q
  have L6 : ∀ (s : Int × Int), (inR (s.1) ∧ inR (s.2)) → Z Y (m_Md_sumBut_L6 o x1 x2 x3 x4 h s) G0 h 6 [(0, vR ad o), (1, vI x1), (2, vI x2), (3, vI x3), (4, vI x4), (5, vI (s.1)), (6, vI (s.2))] [] := by
    intro s hs
    refine z_loop (G := G0) (hO := fun s : Int × Int => h) (lO := fun s : Int × Int => [(0, vR ad o), (1, vI x1), (2, vI x2), (3, vI x3), (4, vI x4), (5, vI (s.1)), (6, vI (s.2))]) (Φ := fun s : Int × Int => inR (s.1) ∧ inR (s.2)) (fun G1 hin1_1 hout1 s hs => ?_) FUEL s hs
    obtain ⟨x5, x6⟩ := s
    obtain ⟨ax5, ax6⟩ := hs
    have gk1 := fun (x : Int) (g : G1 (.inr (x))) (q : inR x) => gk0 x (hout1 _ g) q
    show Z Y (m_Md_sumBut_L6b o x1 x2 x3 x4 h x5 x6) G1 h 6 [(0, vR ad o), (1, vI x1), (2, vI x2), (3, vI x3), (4, vI x4), (5, vI x5), (6, vI x6)] []
    unfold m_Md_sumBut_L6b
    refine z_s I (s_iload (pc' := 8) 6 rfl D_Md_sumBut_0.1.2.1.1 rfl) ?_
    refine z_s I (s_iconst (pc' := 9) D_Md_sumBut_0.1.2.1.2 rfl) ?_
    refine z_icmp_ge (tgt := 43) (pc' := 12) I ax6 (inR_c (x := 4) rfl) D_Md_sumBut_0.1.2.2.1 rfl rfl (fun c1 => ?_) (fun c1 => ?_)
    · refine z_s I (s_iload (pc' := 45) 5 rfl D_Md_sumBut_1.2.2.2.1 rfl) ?_
      exact z_ret (w := some (vI x5)) I (fun g => gk1 _ g ax5) ⟨_, rfl⟩ D_Md_sumBut_1.2.2.2.2 rfl
    · refine z_s I (s_iload (pc' := 14) 5 rfl D_Md_sumBut_0.1.2.2.2 rfl) ?_
      refine z_s I (s_iload (pc' := 16) 6 rfl D_Md_sumBut_0.2.1.1.1 rfl) ?_
      refine z_s I (s_iload_n (pc' := 17) 2 rfl D_Md_sumBut_0.2.1.1.2 rfl rfl) ?_
      refine z_icmp_ne (tgt := 24) (pc' := 20) I ax6 ax2 D_Md_sumBut_0.2.1.2.1 rfl rfl (fun c2 => ?_) (fun c2 => ?_)
      · refine z_s I (s_aload_n (pc' := 25) 0 rfl D_Md_sumBut_0.2.2.1.2 rfl rfl) ?_
        refine z_s I (s_iload_n (pc' := 26) 1 rfl D_Md_sumBut_0.2.2.2.1 rfl rfl) ?_
        refine z_s I (s_iload (pc' := 28) 6 rfl D_Md_sumBut_0.2.2.2.2 rfl) ?_
        refine z_s I (s_iload_n (pc' := 29) 3 rfl D_Md_sumBut_1.1.1.1 rfl rfl) ?_
        refine z_s I (s_iload (pc' := 31) 4 rfl D_Md_sumBut_1.1.1.2 rfl) ?_
        refine z_b1 (fun r5 q4 => ?_)
        refine z_callV (pc' := 34) I mv_Md_shareOf ml_Md_227 (fun ad => [vI x1, vI x6, vI x3, vI x4]) ⟨Nat.le_of_ble_eq_true rfl, Nat.le_of_ble_eq_true rfl⟩ ao (fun hh => c_Md_shareOf hw ao ax1 ax6 ax3 ax4 hh q4) rfl rfl (Nat.le_of_ble_eq_true rfl) D_Md_sumBut_1.1.2.1 rfl (fun f3 => ?_)
        refine z_s I (s_iadd (pc' := 35) D_Md_sumBut_1.1.2.2 rfl) ?_
        refine z_bI (inR_w32 _) (fun v6 e7 f8 => ?_)
        refine z_s I (s_istore (pc' := 37) (lv' := [(5, vI v6), (0, vR ad o), (1, vI x1), (2, vI x2), (3, vI x3), (4, vI x4), (6, vI x6)]) D_Md_sumBut_1.2.1.1 (by decide) rfl rfl) ?_
        refine z_s I (s_iinc (pc' := 40) (lv' := [(6, vI (w32 (x6 + 1))), (5, vI v6), (0, vR ad o), (1, vI x1), (2, vI x2), (3, vI x3), (4, vI x4)]) (n := 6) rfl D_Md_sumBut_1.2.1.2 (by decide) rfl rfl) ?_
        refine z_s I (s_goto (tgt := 6) D_Md_sumBut_1.2.2.1 rfl) ?_
        refine z_s I (s_lv (lv' := [(0, vR ad o), (1, vI x1), (2, vI x2), (3, vI x3), (4, vI x4), (5, vI v6), (6, vI (w32 (x6 + 1)))]) [2, 3, 4, 5, 6, 1, 0] rfl) ?_
        exact z_end (fun g => hin1_1 _ g ⟨f8, (inR_w32 _)⟩)
      · refine z_s I (s_iconst (pc' := 21) D_Md_sumBut_0.2.1.2.2 rfl) ?_
        refine z_s I (s_goto (tgt := 34) D_Md_sumBut_0.2.2.1.1 rfl) ?_
        refine z_s I (s_iadd (pc' := 35) D_Md_sumBut_1.1.2.2 rfl) ?_
        refine z_bI (inR_w32 _) (fun v9 e10 f11 => ?_)
        refine z_s I (s_istore (pc' := 37) (lv' := [(5, vI v9), (0, vR ad o), (1, vI x1), (2, vI x2), (3, vI x3), (4, vI x4), (6, vI x6)]) D_Md_sumBut_1.2.1.1 (by decide) rfl rfl) ?_
        refine z_s I (s_iinc (pc' := 40) (lv' := [(6, vI (w32 (x6 + 1))), (5, vI v9), (0, vR ad o), (1, vI x1), (2, vI x2), (3, vI x3), (4, vI x4)]) (n := 6) rfl D_Md_sumBut_1.2.1.2 (by decide) rfl rfl) ?_
        refine z_s I (s_goto (tgt := 6) D_Md_sumBut_1.2.2.1 rfl) ?_
        refine z_s I (s_lv (lv' := [(0, vR ad o), (1, vI x1), (2, vI x2), (3, vI x3), (4, vI x4), (5, vI v9), (6, vI (w32 (x6 + 1)))]) [2, 3, 4, 5, 6, 1, 0] rfl) ?_
        exact z_end (fun g => hin1_1 _ g ⟨f11, (inR_w32 _)⟩)
  have main : Z Y (m_Md_sumBut o x1 x2 x3 x4 h) G0 h 0 [(0, vR ad o), (1, vI x1), (2, vI x2), (3, vI x3), (4, vI x4)] [] := by
    unfold m_Md_sumBut
    refine z_s I (s_iconst (pc' := 1) D_Md_sumBut_0.1.1.1.1 rfl) ?_
    refine z_s I (s_istore (pc' := 3) (lv' := [(5, vI 0), (0, vR ad o), (1, vI x1), (2, vI x2), (3, vI x3), (4, vI x4)]) D_Md_sumBut_0.1.1.1.2 (by decide) rfl rfl) ?_
    refine z_s I (s_iconst (pc' := 4) D_Md_sumBut_0.1.1.2.1 rfl) ?_
    refine z_s I (s_istore (pc' := 6) (lv' := [(6, vI 0), (5, vI 0), (0, vR ad o), (1, vI x1), (2, vI x2), (3, vI x3), (4, vI x4)]) D_Md_sumBut_0.1.1.2.2 (by decide) rfl rfl) ?_
    refine z_s I (s_lv (lv' := [(0, vR ad o), (1, vI x1), (2, vI x2), (3, vI x3), (4, vI x4), (5, vI 0), (6, vI 0)]) [2, 3, 4, 5, 6, 1, 0] rfl) ?_
    exact L6 _ ⟨(b01.R bz0), (b01.R bz0)⟩
  exact main _ hF (by rw [hG0])
set_option maxHeartbeats 4000000 in
set_option maxRecDepth 20000 in
theorem c_Md_share {l : Launch} {τ : TP} {o : Int} {x1 : Int} {x2 : Int} {x3 : Int} {x4 : Int} {h : HP} {r : Int} (hw : wf τ) (ao : ok τ (4, 10) o) (ax1 : inR x1) (ax2 : inR x2) (ax3 : inR x3) (ax4 : inR x4) (hh : hr τ h) (hF : m_Md_share o x1 x2 x3 x4 h = some r) : Ctr l y_Md_share k_Md_share 5 (Option.some FieldType.int) 3 76 τ (fun ad => [vR ad o, vI x1, vI x2, vI x3, vI x4]) h (some (vI r)) h (inR r) := by
  refine ctr_of (by decide) hw hh (fun ad => Nat.le_of_ble_eq_true rfl) (fun ad K Y I hK => ?_)
  obtain ⟨G0, hG0⟩ : ∃ G : Int → Prop, G = fun x => x = r := ⟨_, rfl⟩
  have gk0 : ∀ (x : Int), G0 x → inR x → K (some (vI x)) h := fun x g q => by
    rw [hG0] at g
    cases g
    exact hK q
  have main : Z Y (m_Md_share o x1 x2 x3 x4 h) G0 h 0 [(0, vR ad o), (1, vI x1), (2, vI x2), (3, vI x3), (4, vI x4)] [] := by
    unfold m_Md_share
    refine z_s I (s_aload_n (pc' := 1) 0 rfl D_Md_share_0.1.1.1.1 rfl rfl) ?_
    refine z_s I (s_iload_n (pc' := 2) 1 rfl D_Md_share_0.1.1.1.2 rfl rfl) ?_
    refine z_b1 (fun r3 q2 => ?_)
    refine z_callV (pc' := 5) I mv_Md_isItem ml_Md_160 (fun ad => [vI x1]) ⟨Nat.le_of_ble_eq_true rfl, Nat.le_of_ble_eq_true rfl⟩ ao (fun hh => c_Md_isItem hw ao ax1 hh q2) rfl rfl (Nat.le_of_ble_eq_true rfl) D_Md_share_0.1.1.2.1 rfl (fun f1 => ?_)
    refine z_if_eq (tgt := 18) (pc' := 8) I (b01.R f1) D_Md_share_0.1.1.2.2 rfl rfl (fun c4 => ?_) (fun c4 => ?_)
    · refine z_s I (s_iconst (pc' := 19) D_Md_share_0.2.1.1.2 rfl) ?_
      exact z_ret (w := some (vI (-1))) I (fun g => gk0 _ g (inR_c (x := (-1)) rfl)) ⟨_, rfl⟩ D_Md_share_0.2.1.2.1 rfl
    · refine z_s I (s_aload_n (pc' := 9) 0 rfl D_Md_share_0.1.2.1.1 rfl rfl) ?_
      refine z_s I (s_iload_n (pc' := 10) 3 rfl D_Md_share_0.1.2.1.2 rfl rfl) ?_
      refine z_s I (s_iload (pc' := 12) 4 rfl D_Md_share_0.1.2.2.1 rfl) ?_
      refine z_b1 (fun r7 q6 => ?_)
      refine z_callV (pc' := 15) I mv_Md_isTwo ml_Md_230 (fun ad => [vI x3, vI x4]) ⟨Nat.le_of_ble_eq_true rfl, Nat.le_of_ble_eq_true rfl⟩ ao (fun hh => c_Md_isTwo hw ao ax3 ax4 hh q6) rfl rfl (Nat.le_of_ble_eq_true rfl) D_Md_share_0.1.2.2.2 rfl (fun f5 => ?_)
      refine z_if_ne (tgt := 20) (pc' := 18) I (b01.R f5) D_Md_share_0.2.1.1.1 rfl rfl (fun c8 => ?_) (fun c8 => ?_)
      · refine z_s I (s_iload_n (pc' := 21) 2 rfl D_Md_share_0.2.1.2.2 rfl rfl) ?_
        refine z_s I (s_i2l (pc' := 22) ax2 D_Md_share_0.2.2.1.1 rfl) ?_
        refine z_ldc2 (pc' := 25) (x := (-1)) I cl_Md_165 (by decide +kernel) D_Md_share_0.2.2.1.2 rfl ?_
        refine z_ldc2 (pc' := 28) (x := 3) I cl_Md_163 (by decide +kernel) D_Md_share_0.2.2.2.1 rfl ?_
        refine z_b1 (fun r11 q10 => ?_)
        refine z_callS (pc' := 31) I mv_Md_in ml_Md_119 (fun ad => [vL x2, vL (-1), vL 3]) ⟨Nat.le_of_ble_eq_true rfl, Nat.le_of_ble_eq_true rfl⟩ (fun hh => c_Md_in hw (ax2).L (inL_c (x := (-1)) rfl) (inL_c (x := 3) rfl) hh q10) rfl rfl (Nat.le_of_ble_eq_true rfl) D_Md_share_0.2.2.2.2 rfl (fun f9 => ?_)
        refine z_if_ne (tgt := 37) (pc' := 34) I (b01.R f9) D_Md_share_1.1.1.1.1 rfl rfl (fun c12 => ?_) (fun c12 => ?_)
        · refine z_s I (s_iload_n (pc' := 38) 2 rfl D_Md_share_1.1.1.2.2 rfl rfl) ?_
          refine z_if_ge (tgt := 53) (pc' := 41) I ax2 D_Md_share_1.1.2.1.1 rfl rfl (fun c13 => ?_) (fun c13 => ?_)
          · refine z_s I (s_aload_n (pc' := 54) 0 rfl D_Md_share_1.2.2.1.1 rfl rfl) ?_
            refine z_s I (s_iload_n (pc' := 55) 1 rfl D_Md_share_1.2.2.1.2 rfl rfl) ?_
            refine z_s I (s_iload_n (pc' := 56) 2 rfl D_Md_share_1.2.2.2.1 rfl rfl) ?_
            refine z_s I (s_iload_n (pc' := 57) 3 rfl D_Md_share_1.2.2.2.2 rfl rfl) ?_
            refine z_s I (s_iload (pc' := 59) 4 rfl D_Md_share_2.1 rfl) ?_
            refine z_b1 (fun r16 q15 => ?_)
            refine z_callV (pc' := 62) I mv_Md_shareOf ml_Md_227 (fun ad => [vI x1, vI x2, vI x3, vI x4]) ⟨Nat.le_of_ble_eq_true rfl, Nat.le_of_ble_eq_true rfl⟩ ao (fun hh => c_Md_shareOf hw ao ax1 ax2 ax3 ax4 hh q15) rfl rfl (Nat.le_of_ble_eq_true rfl) D_Md_share_2.2.1 rfl (fun f14 => ?_)
            exact z_ret (w := some (vI r16)) I (fun g => gk0 _ g f14) ⟨_, rfl⟩ D_Md_share_2.2.2 rfl
          · refine z_s I (s_aload_n (pc' := 42) 0 rfl D_Md_share_1.1.2.1.2 rfl rfl) ?_
            refine z_s I (s_iload_n (pc' := 43) 1 rfl D_Md_share_1.1.2.2.1 rfl rfl) ?_
            refine z_s I (s_iconst (pc' := 44) D_Md_share_1.1.2.2.2 rfl) ?_
            refine z_s I (s_iload_n (pc' := 45) 3 rfl D_Md_share_1.2.1.1.1 rfl rfl) ?_
            refine z_s I (s_iload (pc' := 47) 4 rfl D_Md_share_1.2.1.1.2 rfl) ?_
            refine z_b1 (fun r19 q18 => ?_)
            refine z_callV (pc' := 50) I mv_Md_sumBut ml_Md_233 (fun ad => [vI x1, vI (-1), vI x3, vI x4]) ⟨Nat.le_of_ble_eq_true rfl, Nat.le_of_ble_eq_true rfl⟩ ao (fun hh => c_Md_sumBut hw ao ax1 (inR_c (x := (-1)) rfl) ax3 ax4 hh q18) rfl rfl (Nat.le_of_ble_eq_true rfl) D_Md_share_1.2.1.2.1 rfl (fun f17 => ?_)
            refine z_s I (s_goto (tgt := 62) D_Md_share_1.2.1.2.2 rfl) ?_
            exact z_ret (w := some (vI r19)) I (fun g => gk0 _ g f17) ⟨_, rfl⟩ D_Md_share_2.2.2 rfl
        · refine z_s I (s_bipush (pc' := 36) D_Md_share_1.1.1.1.2 rfl rfl) ?_
          exact z_ret (w := some (vI (-2))) I (fun g => gk0 _ g (inR_c (x := (-2)) rfl)) ⟨_, rfl⟩ D_Md_share_1.1.1.2.1 rfl
      · refine z_s I (s_iconst (pc' := 19) D_Md_share_0.2.1.1.2 rfl) ?_
        exact z_ret (w := some (vI (-1))) I (fun g => gk0 _ g (inR_c (x := (-1)) rfl)) ⟨_, rfl⟩ D_Md_share_0.2.1.2.1 rfl
  exact main _ hF (by rw [hG0])
set_option maxHeartbeats 4000000 in
set_option maxRecDepth 20000 in
theorem c_Md_worth {l : Launch} {τ : TP} {o : Int} {x1 : Int} {x2 : Int} {h : HP} {r : Int} (hw : wf τ) (ao : ok τ (4, 10) o) (ax1 : inR x1) (ax2 : inR x2) (hh : hr τ h) (hF : m_Md_worth o x1 x2 h = some r) : Ctr l y_Md_worth k_Md_worth 3 (Option.some FieldType.int) 0 0 τ (fun ad => [vR ad o, vI x1, vI x2]) h (some (vI r)) h (inR r) := by
  refine ctr_of (by decide) hw hh (fun ad => Nat.le_of_ble_eq_true rfl) (fun ad K Y I hK => ?_)
  obtain ⟨G0, hG0⟩ : ∃ G : Int → Prop, G = fun x => x = r := ⟨_, rfl⟩
  have gk0 : ∀ (x : Int), G0 x → inR x → K (some (vI x)) h := fun x g q => by
    rw [hG0] at g
    cases g
    exact hK q
  have main : Z Y (m_Md_worth o x1 x2 h) G0 h 0 [(0, vR ad o), (1, vI x1), (2, vI x2)] [] := by
    unfold m_Md_worth
    refine z_s I (s_iload_n (pc' := 1) 2 rfl D_Md_worth_0.1.1.1.1 rfl rfl) ?_
    refine z_s I (s_aload_n (pc' := 2) 0 rfl D_Md_worth_0.1.1.1.2 rfl rfl) ?_
    refine z_getR (pc' := 5) (eI := o + 1) I g_Md_15 ao rfl (by omega) D_Md_worth_0.1.1.2.1 rfl ?_
    have k1 : ok τ (0, 8) (o + 1) := r_Md_right hw ao (by omega)
    refine z_s I (s_iload_n (pc' := 6) 1 rfl D_Md_worth_0.1.1.2.2 rfl rfl) ?_
    refine z_iald (pc' := 7) (nI := 8) I k1 ax1 rfl D_Md_worth_0.1.2.1.1 rfl (fun c2 f3 => ?_)
    refine z_icmp_ne (tgt := 19) (pc' := 10) I ax2 f3 D_Md_worth_0.1.2.1.2 rfl rfl (fun c4 => ?_) (fun c4 => ?_)
    · refine z_s I (s_aload_n (pc' := 20) 0 rfl D_Md_worth_0.2.1.2.2 rfl rfl) ?_
      refine z_getR (pc' := 23) (eI := o + 7) I g_Md_34 ao rfl (by omega) D_Md_worth_0.2.2.1.1 rfl ?_
      have k5 : ok τ (0, 6) (o + 7) := r_Md_used hw ao (by omega)
      refine z_s I (s_iconst (pc' := 24) D_Md_worth_0.2.2.1.2 rfl) ?_
      refine z_g (c := 0 ≤ (5 : Int) ∧ (5 : Int) < 6) (by decide) ?_
      refine z_iald (pc' := 25) (nI := 6) I k5 (inR_c (x := 5) rfl) rfl D_Md_worth_0.2.2.2.1 rfl (fun c6 f7 => ?_)
      exact z_ret (w := some (vI (h (o + 7) 5))) I (fun g => gk0 _ g f7) ⟨_, rfl⟩ D_Md_worth_0.2.2.2.2 rfl
    · refine z_s I (s_aload_n (pc' := 11) 0 rfl D_Md_worth_0.1.2.2.1 rfl rfl) ?_
      refine z_getR (pc' := 14) (eI := o + 7) I g_Md_34 ao rfl (by omega) D_Md_worth_0.1.2.2.2 rfl ?_
      have k8 : ok τ (0, 6) (o + 7) := r_Md_used hw ao (by omega)
      refine z_s I (s_iconst (pc' := 15) D_Md_worth_0.2.1.1.1 rfl) ?_
      refine z_g (c := 0 ≤ (4 : Int) ∧ (4 : Int) < 6) (by decide) ?_
      refine z_iald (pc' := 16) (nI := 6) I k8 (inR_c (x := 4) rfl) rfl D_Md_worth_0.2.1.1.2 rfl (fun c9 f10 => ?_)
      refine z_s I (s_goto (tgt := 25) D_Md_worth_0.2.1.2.1 rfl) ?_
      exact z_ret (w := some (vI (h (o + 7) 4))) I (fun g => gk0 _ g f10) ⟨_, rfl⟩ D_Md_worth_0.2.2.2.2 rfl
  exact main _ hF (by rw [hG0])
set_option maxHeartbeats 4000000 in
set_option maxRecDepth 20000 in
theorem c_Md_likeness {l : Launch} {τ : TP} {o : Int} {x1 : Int} {x2 : Int} {x3 : Int} {h : HP} {r : Int} (hw : wf τ) (ao : ok τ (4, 10) o) (ax1 : inR x1) (ax2 : inR x2) (ax3 : inR x3) (hh : hr τ h) (hF : m_Md_likeness o x1 x2 x3 h = some r) : Ctr l y_Md_likeness k_Md_likeness 7 (Option.some FieldType.int) 1 22 τ (fun ad => [vR ad o, vI x1, vI x2, vI x3]) h (some (vI r)) h (inR r) := by
  refine ctr_of (by decide) hw hh (fun ad => Nat.le_of_ble_eq_true rfl) (fun ad K Y I hK => ?_)
  obtain ⟨G0, hG0⟩ : ∃ G : Int → Prop, G = fun x => x = r := ⟨_, rfl⟩
  have gk0 : ∀ (x : Int), G0 x → inR x → K (some (vI x)) h := fun x g q => by
    rw [hG0] at g
    cases g
    exact hK q
  have L6 : ∀ (s : Int × Int), (inR (s.1) ∧ inR (s.2)) → Z Y (m_Md_likeness_L6 o x1 x2 x3 h s) G0 h 6 [(0, vR ad o), (1, vI x1), (2, vI x2), (3, vI x3), (4, vI (s.1)), (5, vI (s.2))] [] := by
    intro s hs
    refine z_loop (G := G0) (hO := fun s : Int × Int => h) (lO := fun s : Int × Int => [(0, vR ad o), (1, vI x1), (2, vI x2), (3, vI x3), (4, vI (s.1)), (5, vI (s.2))]) (Φ := fun s : Int × Int => inR (s.1) ∧ inR (s.2)) (fun G1 hin1_1 hout1 s hs => ?_) FUEL s hs
    obtain ⟨x4, x5⟩ := s
    obtain ⟨ax4, ax5⟩ := hs
    have gk1 := fun (x : Int) (g : G1 (.inr (x))) (q : inR x) => gk0 x (hout1 _ g) q
    show Z Y (m_Md_likeness_L6b o x1 x2 x3 h x4 x5) G1 h 6 [(0, vR ad o), (1, vI x1), (2, vI x2), (3, vI x3), (4, vI x4), (5, vI x5)] []
    unfold m_Md_likeness_L6b
    refine z_s I (s_iload (pc' := 8) 5 rfl D_Md_likeness_0.1.2.1.1 rfl) ?_
    refine z_s I (s_aload_n (pc' := 9) 0 rfl D_Md_likeness_0.1.2.1.2 rfl rfl) ?_
    refine z_getI (pc' := 12) (jI := 0) I g_Md_9 ao rfl rfl D_Md_likeness_0.1.2.2.1 rfl (fun f1 => ?_)
    refine z_icmp_ge (tgt := 80) (pc' := 15) I ax5 f1 D_Md_likeness_0.1.2.2.2 rfl rfl (fun c2 => ?_) (fun c2 => ?_)
    · refine z_s I (s_iload (pc' := 82) 4 rfl D_Md_likeness_2.2.2.2.1 rfl) ?_
      exact z_ret (w := some (vI x4)) I (fun g => gk1 _ g ax4) ⟨_, rfl⟩ D_Md_likeness_2.2.2.2.2 rfl
    · refine z_s I (s_aload_n (pc' := 16) 0 rfl D_Md_likeness_0.2.1.1.1 rfl rfl) ?_
      refine z_getR (pc' := 19) (eI := o + 4) I g_Md_25 ao rfl (by omega) D_Md_likeness_0.2.1.1.2 rfl ?_
      have k3 : ok τ (0, 64) (o + 4) := r_Md_given hw ao (by omega)
      refine z_s I (s_bipush (pc' := 21) D_Md_likeness_0.2.1.2.1 rfl rfl) ?_
      refine z_s I (s_iload_n (pc' := 22) 1 rfl D_Md_likeness_0.2.1.2.2 rfl rfl) ?_
      refine z_s I (s_imul (pc' := 23) D_Md_likeness_0.2.2.1.1 rfl) ?_
      refine z_s I (s_iload (pc' := 25) 5 rfl D_Md_likeness_0.2.2.1.2 rfl) ?_
      refine z_s I (s_iadd (pc' := 26) D_Md_likeness_0.2.2.2.1 rfl) ?_
      refine z_iald (pc' := 27) (nI := 64) I k3 (inR_w32 _) rfl D_Md_likeness_0.2.2.2.2 rfl (fun c4 f5 => ?_)
      refine z_bI f5 (fun v6 e7 f8 => ?_)
      refine z_s I (s_istore (pc' := 29) (lv' := [(6, vI v6), (0, vR ad o), (1, vI x1), (2, vI x2), (3, vI x3), (4, vI x4), (5, vI x5)]) D_Md_likeness_1.1.1.1.1 (by decide) rfl rfl) ?_
      refine z_s I (s_iload (pc' := 31) 5 rfl D_Md_likeness_1.1.1.1.2 rfl) ?_
      refine z_s I (s_iload (pc' := 33) 6 rfl D_Md_likeness_1.1.1.2.1 rfl) ?_
      refine z_s I (s_iload_n (pc' := 34) 4 rfl D_Md_likeness_1.1.1.2.2 rfl rfl) ?_
      refine z_icmp_eq (tgt := 70) (pc' := 37) I ax5 ax3 D_Md_likeness_1.1.2.1.1 rfl rfl (fun c9 => ?_) (fun c9 => ?_)
      · refine z_s I (s_iconst (pc' := 71) D_Md_likeness_2.2.1.1 rfl) ?_
        refine z_s I (s_iadd (pc' := 72) D_Md_likeness_2.2.1.2.1 rfl) ?_
        refine z_bI (inR_w32 _) (fun v10 e11 f12 => ?_)
        refine z_s I (s_istore (pc' := 74) (lv' := [(4, vI v10), (6, vI v6), (0, vR ad o), (1, vI x1), (2, vI x2), (3, vI x3), (5, vI x5)]) D_Md_likeness_2.2.1.2.2 (by decide) rfl rfl) ?_
        refine z_s I (s_iinc (pc' := 77) (lv' := [(5, vI (w32 (x5 + 1))), (4, vI v10), (6, vI v6), (0, vR ad o), (1, vI x1), (2, vI x2), (3, vI x3)]) (n := 6) rfl D_Md_likeness_2.2.2.1.1 (by decide) rfl rfl) ?_
        refine z_s I (s_goto (tgt := 6) D_Md_likeness_2.2.2.1.2 rfl) ?_
        refine z_s I (s_lv (lv' := [(0, vR ad o), (1, vI x1), (2, vI x2), (3, vI x3), (4, vI v10), (5, vI (w32 (x5 + 1)))]) [3, 4, 5, 6, 1, 0] rfl) ?_
        exact z_end (fun g => hin1_1 _ g ⟨f12, (inR_w32 _)⟩)
      · refine z_s I (s_iload (pc' := 39) 0 rfl D_Md_likeness_1.1.2.1.2 rfl) ?_
        refine z_if_lt (tgt := 70) (pc' := 42) I f8 D_Md_likeness_1.1.2.2.1 rfl rfl (fun c13 => ?_) (fun c13 => ?_)
        · refine z_s I (s_iconst (pc' := 71) D_Md_likeness_2.2.1.1 rfl) ?_
          refine z_s I (s_iadd (pc' := 72) D_Md_likeness_2.2.1.2.1 rfl) ?_
          refine z_bI (inR_w32 _) (fun v14 e15 f16 => ?_)
          refine z_s I (s_istore (pc' := 74) (lv' := [(4, vI v14), (6, vI v6), (0, vR ad o), (1, vI x1), (2, vI x2), (3, vI x3), (5, vI x5)]) D_Md_likeness_2.2.1.2.2 (by decide) rfl rfl) ?_
          refine z_s I (s_iinc (pc' := 77) (lv' := [(5, vI (w32 (x5 + 1))), (4, vI v14), (6, vI v6), (0, vR ad o), (1, vI x1), (2, vI x2), (3, vI x3)]) (n := 6) rfl D_Md_likeness_2.2.2.1.1 (by decide) rfl rfl) ?_
          refine z_s I (s_goto (tgt := 6) D_Md_likeness_2.2.2.1.2 rfl) ?_
          refine z_s I (s_lv (lv' := [(0, vR ad o), (1, vI x1), (2, vI x2), (3, vI x3), (4, vI v14), (5, vI (w32 (x5 + 1)))]) [3, 4, 5, 6, 1, 0] rfl) ?_
          exact z_end (fun g => hin1_1 _ g ⟨f16, (inR_w32 _)⟩)
        · refine z_s I (s_iload (pc' := 44) 0 rfl D_Md_likeness_1.1.2.2.2 rfl) ?_
          refine z_s I (s_aload_n (pc' := 45) 1 rfl D_Md_likeness_1.2.1.1.1 rfl rfl) ?_
          refine z_getR (pc' := 48) (eI := o + 4) I g_Md_25 ao rfl (by omega) D_Md_likeness_1.2.1.1.2 rfl ?_
          have k17 : ok τ (0, 64) (o + 4) := r_Md_given hw ao (by omega)
          refine z_s I (s_bipush (pc' := 50) D_Md_likeness_1.2.1.2.1 rfl rfl) ?_
          refine z_s I (s_iload_n (pc' := 51) 3 rfl D_Md_likeness_1.2.1.2.2 rfl rfl) ?_
          refine z_s I (s_imul (pc' := 52) D_Md_likeness_1.2.2.1.1 rfl) ?_
          refine z_s I (s_iload (pc' := 54) 6 rfl D_Md_likeness_1.2.2.1.2 rfl) ?_
          refine z_s I (s_iadd (pc' := 55) D_Md_likeness_1.2.2.2.1 rfl) ?_
          refine z_iald (pc' := 56) (nI := 64) I k17 (inR_w32 _) rfl D_Md_likeness_1.2.2.2.2 rfl (fun c18 f19 => ?_)
          refine z_icmp_ne (tgt := 70) (pc' := 59) I f8 f19 D_Md_likeness_2.1.1.1 rfl rfl (fun c20 => ?_) (fun c20 => ?_)
          · refine z_s I (s_iconst (pc' := 71) D_Md_likeness_2.2.1.1 rfl) ?_
            refine z_s I (s_iadd (pc' := 72) D_Md_likeness_2.2.1.2.1 rfl) ?_
            refine z_bI (inR_w32 _) (fun v21 e22 f23 => ?_)
            refine z_s I (s_istore (pc' := 74) (lv' := [(4, vI v21), (6, vI v6), (0, vR ad o), (1, vI x1), (2, vI x2), (3, vI x3), (5, vI x5)]) D_Md_likeness_2.2.1.2.2 (by decide) rfl rfl) ?_
            refine z_s I (s_iinc (pc' := 77) (lv' := [(5, vI (w32 (x5 + 1))), (4, vI v21), (6, vI v6), (0, vR ad o), (1, vI x1), (2, vI x2), (3, vI x3)]) (n := 6) rfl D_Md_likeness_2.2.2.1.1 (by decide) rfl rfl) ?_
            refine z_s I (s_goto (tgt := 6) D_Md_likeness_2.2.2.1.2 rfl) ?_
            refine z_s I (s_lv (lv' := [(0, vR ad o), (1, vI x1), (2, vI x2), (3, vI x3), (4, vI v21), (5, vI (w32 (x5 + 1)))]) [3, 4, 5, 6, 1, 0] rfl) ?_
            exact z_end (fun g => hin1_1 _ g ⟨f23, (inR_w32 _)⟩)
          · refine z_s I (s_aload_n (pc' := 60) 1 rfl D_Md_likeness_2.1.1.2.1 rfl rfl) ?_
            refine z_s I (s_iload (pc' := 62) 6 rfl D_Md_likeness_2.1.1.2.2 rfl) ?_
            refine z_s I (s_iload (pc' := 64) 0 rfl D_Md_likeness_2.1.2.1 rfl) ?_
            refine z_b1 (fun r26 q25 => ?_)
            refine z_callV (pc' := 67) I mv_Md_worth ml_Md_236 (fun ad => [vI x5, vI v6]) ⟨Nat.le_of_ble_eq_true rfl, Nat.le_of_ble_eq_true rfl⟩ ao (fun hh => c_Md_worth hw ao ax5 f8 hh q25) rfl rfl (Nat.le_of_ble_eq_true rfl) D_Md_likeness_2.1.2.2.1 rfl (fun f24 => ?_)
            refine z_s I (s_goto (tgt := 71) D_Md_likeness_2.1.2.2.2 rfl) ?_
            refine z_s I (s_iadd (pc' := 72) D_Md_likeness_2.2.1.2.1 rfl) ?_
            refine z_bI (inR_w32 _) (fun v27 e28 f29 => ?_)
            refine z_s I (s_istore (pc' := 74) (lv' := [(4, vI v27), (6, vI v6), (0, vR ad o), (1, vI x1), (2, vI x2), (3, vI x3), (5, vI x5)]) D_Md_likeness_2.2.1.2.2 (by decide) rfl rfl) ?_
            refine z_s I (s_iinc (pc' := 77) (lv' := [(5, vI (w32 (x5 + 1))), (4, vI v27), (6, vI v6), (0, vR ad o), (1, vI x1), (2, vI x2), (3, vI x3)]) (n := 6) rfl D_Md_likeness_2.2.2.1.1 (by decide) rfl rfl) ?_
            refine z_s I (s_goto (tgt := 6) D_Md_likeness_2.2.2.1.2 rfl) ?_
            refine z_s I (s_lv (lv' := [(0, vR ad o), (1, vI x1), (2, vI x2), (3, vI x3), (4, vI v27), (5, vI (w32 (x5 + 1)))]) [3, 4, 5, 6, 1, 0] rfl) ?_
            exact z_end (fun g => hin1_1 _ g ⟨f29, (inR_w32 _)⟩)
  have main : Z Y (m_Md_likeness o x1 x2 x3 h) G0 h 0 [(0, vR ad o), (1, vI x1), (2, vI x2), (3, vI x3)] [] := by
    unfold m_Md_likeness
    refine z_s I (s_iconst (pc' := 1) D_Md_likeness_0.1.1.1.1 rfl) ?_
    refine z_s I (s_istore (pc' := 3) (lv' := [(4, vI 0), (0, vR ad o), (1, vI x1), (2, vI x2), (3, vI x3)]) D_Md_likeness_0.1.1.1.2 (by decide) rfl rfl) ?_
    refine z_s I (s_iconst (pc' := 4) D_Md_likeness_0.1.1.2.1 rfl) ?_
    refine z_s I (s_istore (pc' := 6) (lv' := [(5, vI 0), (4, vI 0), (0, vR ad o), (1, vI x1), (2, vI x2), (3, vI x3)]) D_Md_likeness_0.1.1.2.2 (by decide) rfl rfl) ?_
    refine z_s I (s_lv (lv' := [(0, vR ad o), (1, vI x1), (2, vI x2), (3, vI x3), (4, vI 0), (5, vI 0)]) [2, 3, 4, 5, 1, 0] rfl) ?_
    exact L6 _ ⟨(b01.R bz0), (b01.R bz0)⟩
  exact main _ hF (by rw [hG0])
set_option maxHeartbeats 4000000 in
set_option maxRecDepth 20000 in
theorem c_Md_alike {l : Launch} {τ : TP} {o : Int} {x1 : Int} {x2 : Int} {h : HP} {r : Int} (hw : wf τ) (ao : ok τ (4, 10) o) (ax1 : inR x1) (ax2 : inR x2) (hh : hr τ h) (hF : m_Md_alike o x1 x2 h = some r) : Ctr l y_Md_alike k_Md_alike 3 (Option.some FieldType.int) 3 68 τ (fun ad => [vR ad o, vI x1, vI x2]) h (some (vI r)) h (inR r) := by
  refine ctr_of (by decide) hw hh (fun ad => Nat.le_of_ble_eq_true rfl) (fun ad K Y I hK => ?_)
  obtain ⟨G0, hG0⟩ : ∃ G : Int → Prop, G = fun x => x = r := ⟨_, rfl⟩
  have gk0 : ∀ (x : Int), G0 x → inR x → K (some (vI x)) h := fun x g q => by
    rw [hG0] at g
    cases g
    exact hK q
  have main : Z Y (m_Md_alike o x1 x2 h) G0 h 0 [(0, vR ad o), (1, vI x1), (2, vI x2)] [] := by
    unfold m_Md_alike
    refine z_s I (s_aload_n (pc' := 1) 0 rfl D_Md_alike_0.1.1.1 rfl rfl) ?_
    refine z_s I (s_iload_n (pc' := 2) 1 rfl D_Md_alike_0.1.1.2.1 rfl rfl) ?_
    refine z_s I (s_iload_n (pc' := 3) 2 rfl D_Md_alike_0.1.1.2.2 rfl rfl) ?_
    refine z_b1 (fun r3 q2 => ?_)
    refine z_callV (pc' := 6) I mv_Md_isTwo ml_Md_230 (fun ad => [vI x1, vI x2]) ⟨Nat.le_of_ble_eq_true rfl, Nat.le_of_ble_eq_true rfl⟩ ao (fun hh => c_Md_isTwo hw ao ax1 ax2 hh q2) rfl rfl (Nat.le_of_ble_eq_true rfl) D_Md_alike_0.1.2.1 rfl (fun f1 => ?_)
    refine z_if_eq (tgt := 19) (pc' := 9) I (b01.R f1) D_Md_alike_0.1.2.2.1 rfl rfl (fun c4 => ?_) (fun c4 => ?_)
    · refine z_s I (s_iconst (pc' := 20) D_Md_alike_0.2.2.2.1 rfl) ?_
      exact z_ret (w := some (vI (-1))) I (fun g => gk0 _ g (inR_c (x := (-1)) rfl)) ⟨_, rfl⟩ D_Md_alike_0.2.2.2.2 rfl
    · refine z_s I (s_aload_n (pc' := 10) 0 rfl D_Md_alike_0.1.2.2.2 rfl rfl) ?_
      refine z_s I (s_iload_n (pc' := 11) 1 rfl D_Md_alike_0.2.1.1 rfl rfl) ?_
      refine z_s I (s_iload_n (pc' := 12) 2 rfl D_Md_alike_0.2.1.2.1 rfl rfl) ?_
      refine z_s I (s_iconst (pc' := 13) D_Md_alike_0.2.1.2.2 rfl) ?_
      refine z_b1 (fun r7 q6 => ?_)
      refine z_callV (pc' := 16) I mv_Md_likeness ml_Md_240 (fun ad => [vI x1, vI x2, vI (-1)]) ⟨Nat.le_of_ble_eq_true rfl, Nat.le_of_ble_eq_true rfl⟩ ao (fun hh => c_Md_likeness hw ao ax1 ax2 (inR_c (x := (-1)) rfl) hh q6) rfl rfl (Nat.le_of_ble_eq_true rfl) D_Md_alike_0.2.2.1.1 rfl (fun f5 => ?_)
      refine z_s I (s_goto (tgt := 20) D_Md_alike_0.2.2.1.2 rfl) ?_
      exact z_ret (w := some (vI r7)) I (fun g => gk0 _ g f5) ⟨_, rfl⟩ D_Md_alike_0.2.2.2.2 rfl
  exact main _ hF (by rw [hG0])
set_option maxHeartbeats 4000000 in
set_option maxRecDepth 20000 in
theorem c_Md_adds {l : Launch} {τ : TP} {o : Int} {l1 : Int} {x3 : Int} {h : HP} {h' : HP} (hw : wf τ) (ao : ok τ (4, 10) o) (al1 : inL l1) (ax3 : inR x3) (hh : hr τ h) (hF : m_Md_adds o l1 x3 h = some h') : Ctr l y_Md_adds k_Md_adds 5 (Option.none : Option FieldType) 0 0 τ (fun ad => [vR ad o, vL l1, vI x3]) h none h' (True) := by
  refine ctr_of (by decide) hw hh (fun ad => Nat.le_of_ble_eq_true rfl) (fun ad K Y I hK => ?_)
  obtain ⟨G0, hG0⟩ : ∃ G : HP → Prop, G = fun x => x = h' := ⟨_, rfl⟩
  have gk0 : ∀ (x : HP), G0 x → K none x := fun x g => by
    rw [hG0] at g
    cases g
    exact hK trivial
  have L3 : ∀ (s : Int × HP), (inR (s.1)) → Z Y (m_Md_adds_L3 o l1 x3 s) G0 (s.2) 3 [(0, vR ad o), (1, vL l1), (3, vI x3), (4, vI (s.1))] [] := by
    intro s hs
    refine z_loop (G := G0) (hO := fun s : Int × HP => s.2) (lO := fun s : Int × HP => [(0, vR ad o), (1, vL l1), (3, vI x3), (4, vI (s.1))]) (Φ := fun s : Int × HP => inR (s.1)) (fun G1 hin1_1 hout1 s hs => ?_) FUEL s hs
    obtain ⟨x4, h⟩ := s
    have ax4 := hs
    have gk1 := fun (x : HP) (g : G1 (.inr (x))) => gk0 x (hout1 _ g)
    show Z Y (m_Md_adds_L3b o l1 x3 x4 h) G1 h 3 [(0, vR ad o), (1, vL l1), (3, vI x3), (4, vI x4)] []
    unfold m_Md_adds_L3b
    refine z_s I (s_iload (pc' := 5) 3 rfl D_Md_adds_0.1.1.2.1 rfl) ?_
    refine z_s I (s_bipush (pc' := 7) D_Md_adds_0.1.1.2.2 rfl rfl) ?_
    refine z_icmp_ge (tgt := 37) (pc' := 10) I ax4 (inR_c (x := 33) rfl) D_Md_adds_0.1.2.1.1 rfl rfl (fun c1 => ?_) (fun c1 => ?_)
    · exact z_ret (w := none) I (fun g => gk1 _ g) rfl D_Md_adds_1.2.2.2 rfl
    · refine z_s I (s_aload_n (pc' := 11) 0 rfl D_Md_adds_0.1.2.1.2 rfl rfl) ?_
      refine z_getR (pc' := 14) (eI := o + 16) I g_Md_61 ao rfl (by omega) D_Md_adds_0.1.2.2.1 rfl ?_
      have k2 : ok τ (1, 33) (o + 16) := r_Md_ways hw ao (by omega)
      refine z_s I (s_iload (pc' := 16) 3 rfl D_Md_adds_0.1.2.2.2 rfl) ?_
      refine z_s I (s_dup2 (pc' := 17) rfl rfl D_Md_adds_0.2.1.1.1 rfl) ?_
      refine z_lald (pc' := 18) (nI := 33) I k2 ax4 rfl D_Md_adds_0.2.1.1.2 rfl (fun c3 f4 => ?_)
      refine z_s I (s_lload_n (pc' := 19) 1 rfl D_Md_adds_0.2.1.2.1 rfl rfl) ?_
      refine z_s I (s_aload_n (pc' := 20) 0 rfl D_Md_adds_0.2.1.2.2 rfl rfl) ?_
      refine z_getR (pc' := 23) (eI := o + 17) I g_Md_65 ao rfl (by omega) D_Md_adds_0.2.2.1.1 rfl ?_
      have k5 : ok τ (1, 33) (o + 17) := r_Md_before hw ao (by omega)
      refine z_s I (s_iload (pc' := 25) 3 rfl D_Md_adds_0.2.2.1.2 rfl) ?_
      refine z_s I (s_iload_n (pc' := 26) 2 rfl D_Md_adds_0.2.2.2.1 rfl rfl) ?_
      refine z_s I (s_isub (pc' := 27) D_Md_adds_0.2.2.2.2 rfl) ?_
      refine z_lald (pc' := 28) (nI := 33) I k5 (inR_w32 _) rfl D_Md_adds_1.1.1 rfl (fun c6 f7 => ?_)
      refine z_s I (s_lmul (pc' := 29) D_Md_adds_1.1.2.1 rfl) ?_
      refine z_s I (s_ladd (pc' := 30) D_Md_adds_1.1.2.2 rfl) ?_
      refine z_last (pc' := 31) (nI := 33) I k2 ax4 (inL_w64 _) rfl D_Md_adds_1.2.1.1 rfl (fun c8 => ?_)
      refine z_bH (fun h9 e10 => ?_)
      refine z_s I (s_iinc (pc' := 34) (lv' := [(4, vI (w32 (x4 + 1))), (0, vR ad o), (1, vL l1), (3, vI x3)]) (n := 3) rfl D_Md_adds_1.2.1.2 (by decide) rfl rfl) ?_
      refine z_s I (s_goto (tgt := 3) D_Md_adds_1.2.2.1 rfl) ?_
      refine z_s I (s_lv (lv' := [(0, vR ad o), (1, vL l1), (3, vI x3), (4, vI (w32 (x4 + 1)))]) [1, 2, 3, 0] rfl) ?_
      exact z_end (fun g => hin1_1 _ g (inR_w32 _))
  have main : Z Y (m_Md_adds o l1 x3 h) G0 h 0 [(0, vR ad o), (1, vL l1), (3, vI x3)] [] := by
    unfold m_Md_adds
    refine z_s I (s_iload_n (pc' := 1) 2 rfl D_Md_adds_0.1.1.1.1 rfl rfl) ?_
    refine z_s I (s_istore (pc' := 3) (lv' := [(4, vI x3), (0, vR ad o), (1, vL l1), (3, vI x3)]) D_Md_adds_0.1.1.1.2 (by decide) rfl rfl) ?_
    refine z_s I (s_lv (lv' := [(0, vR ad o), (1, vL l1), (3, vI x3), (4, vI x3)]) [1, 2, 3, 0] rfl) ?_
    exact L3 _ ax3
  exact main _ hF (by rw [hG0])
set_option maxHeartbeats 4000000 in
set_option maxRecDepth 20000 in
theorem c_Md_comes {l : Launch} {τ : TP} {o : Int} {x1 : Int} {x2 : Int} {x3 : Int} {x4 : Int} {h : HP} {h' : HP} (hw : wf τ) (ao : ok τ (4, 10) o) (ax1 : inR x1) (ax2 : inR x2) (ax3 : inR x3) (ax4 : inR x4) (hh : hr τ h) (hF : m_Md_comes o x1 x2 x3 x4 h = some h') : Ctr l y_Md_comes k_Md_comes 21 (Option.none : Option FieldType) 3 76 τ (fun ad => [vR ad o, vI x1, vI x2, vI x3, vI x4]) h none h' (True) := by
  refine ctr_of (by decide) hw hh (fun ad => Nat.le_of_ble_eq_true rfl) (fun ad K Y I hK => ?_)
  obtain ⟨G0, hG0⟩ : ∃ G : HP → Prop, G = fun x => x = h' := ⟨_, rfl⟩
  have gk0 : ∀ (x : HP), G0 x → K none x := fun x g => by
    rw [hG0] at g
    cases g
    exact hK trivial
  have J293 : ∀ (l11 : Int) (al11 : inL l11) (l13 : Int) (al13 : inL l13) (h : HP), Z Y (m_Md_comes_J293 o l11 l13 h) G0 h 293 [(0, vR ad o), (11, vL l11), (13, vL l13)] [] := by
    intro l11 al11 l13 al13 h
    unfold m_Md_comes_J293
    refine z_s I (s_aload_n (pc' := 294) 0 rfl D_Md_comes_9.2.2.1.1 rfl rfl) ?_
    refine z_s I (s_lload (pc' := 296) 2 rfl D_Md_comes_9.2.2.1.2 rfl) ?_
    refine z_s I (s_iconst (pc' := 297) D_Md_comes_9.2.2.2.1 rfl) ?_
    refine z_b1 (fun h3 q2 => ?_)
    refine z_callV (pc' := 300) I mv_Md_adds ml_Md_244 (fun ad => [vL l13, vI 0]) ⟨Nat.le_of_ble_eq_true rfl, Nat.le_of_ble_eq_true rfl⟩ ao (fun hh => c_Md_adds hw ao al13 (b01.R bz0) hh q2) rfl rfl (Nat.le_of_ble_eq_true rfl) D_Md_comes_9.2.2.2.2 rfl (fun f1 => ?_)
    refine z_s I (s_aload_n (pc' := 301) 0 rfl D_Md_comes_10.1.1 rfl rfl) ?_
    refine z_s I (s_dup (pc' := 302) rfl D_Md_comes_10.1.2.1 rfl) ?_
    refine z_getL (pc' := 305) (jI := 28) I g_Md_248 ao rfl rfl D_Md_comes_10.1.2.2 rfl (fun f4 => ?_)
    refine z_s I (s_lload (pc' := 307) 1 rfl D_Md_comes_10.2.1.1 rfl) ?_
    refine z_s I (s_lmul (pc' := 308) D_Md_comes_10.2.1.2 rfl) ?_
    refine z_putL (pc' := 311) (jI := 28) I p_Md_248 ao rfl rfl (inL_w64 _) D_Md_comes_10.2.2.1 rfl ?_
    refine z_bH (fun h5 e6 => ?_)
    exact z_ret (w := none) I (fun g => gk0 _ g) rfl D_Md_comes_10.2.2.2 rfl
  have L190 : ∀ (x5 : Int) (ax5 : inR x5) (x7 : Int) (ax7 : inR x7) (x8 : Int) (ax8 : b01 x8) (l11 : Int) (al11 : inL l11) (s : Int × Int × HP), (inL (s.1) ∧ inR (s.2.1)) → Z Y (m_Md_comes_L190 o x1 x2 x3 x4 x5 x7 x8 l11 s) G0 (s.2.2) 190 [(0, vR ad o), (1, vI x1), (2, vI x2), (3, vI x3), (4, vI x4), (5, vI x5), (7, vI x7), (8, vI x8), (11, vL l11), (13, vL (s.1)), (15, vI (s.2.1))] [] := by
    intro x5 ax5 x7 ax7 x8 ax8 l11 al11 s hs
    refine z_loop (G := G0) (hO := fun s : Int × Int × HP => s.2.2) (lO := fun s : Int × Int × HP => [(0, vR ad o), (1, vI x1), (2, vI x2), (3, vI x3), (4, vI x4), (5, vI x5), (7, vI x7), (8, vI x8), (11, vL l11), (13, vL (s.1)), (15, vI (s.2.1))]) (Φ := fun s : Int × Int × HP => inL (s.1) ∧ inR (s.2.1)) (fun G1 hin1_1 hout1 s hs => ?_) FUEL s hs
    obtain ⟨l13, x15, h⟩ := s
    obtain ⟨al13, ax15⟩ := hs
    have gk1 := fun (x : HP) (g : G1 (.inr (x))) => gk0 x (hout1 _ g)
    have J265 : ∀ (l13 : Int) (al13 : inL l13) (x15 : Int) (ax15 : inR x15) (s0 : Int) (as0 : inL s0) (h : HP), Z Y (m_Md_comes_J265 o x1 x2 x3 x4 x5 x7 x8 l11 l13 x15 s0 h) G1 h 265 [(0, vR ad o), (1, vI x1), (2, vI x2), (3, vI x3), (4, vI x4), (5, vI x5), (7, vI x7), (8, vI x8), (11, vL l11), (13, vL l13), (15, vI x15)] [vL s0] := by
      intro l13 al13 x15 ax15 s0 as0 h
      unfold m_Md_comes_J265
      refine z_s I (s_lstore (pc' := 267) (lv' := [(19, vL s0), (0, vR ad o), (1, vI x1), (2, vI x2), (3, vI x3), (4, vI x4), (5, vI x5), (7, vI x7), (8, vI x8), (11, vL l11), (13, vL l13), (15, vI x15)]) D_Md_comes_8.2.2.2.1 (by decide) rfl rfl) ?_
      refine z_s I (s_aload_n (pc' := 268) 1 rfl D_Md_comes_8.2.2.2.2 rfl rfl) ?_
      refine z_s I (s_lload (pc' := 270) 0 rfl D_Md_comes_9.1.1.1.1 rfl) ?_
      refine z_s I (s_aload_n (pc' := 271) 1 rfl D_Md_comes_9.1.1.1.2 rfl rfl) ?_
      refine z_s I (s_iload_n (pc' := 272) 2 rfl D_Md_comes_9.1.1.2.1 rfl rfl) ?_
      refine z_s I (s_iload (pc' := 274) 11 rfl D_Md_comes_9.1.1.2.2 rfl) ?_
      refine z_b1 (fun r9 q8 => ?_)
      refine z_callV (pc' := 277) I mv_Md_worth ml_Md_236 (fun ad => [vI x1, vI x15]) ⟨Nat.le_of_ble_eq_true rfl, Nat.le_of_ble_eq_true rfl⟩ ao (fun hh => c_Md_worth hw ao ax1 ax15 hh q8) rfl rfl (Nat.le_of_ble_eq_true rfl) D_Md_comes_9.1.2.1.1 rfl (fun f7 => ?_)
      refine z_b1 (fun h12 q11 => ?_)
      refine z_callV (pc' := 280) I mv_Md_adds ml_Md_244 (fun ad => [vL s0, vI r9]) ⟨Nat.le_of_ble_eq_true rfl, Nat.le_of_ble_eq_true rfl⟩ ao (fun hh => c_Md_adds hw ao as0 f7 hh q11) rfl rfl (Nat.le_of_ble_eq_true rfl) D_Md_comes_9.1.2.1.2 rfl (fun f10 => ?_)
      refine z_s I (s_lload (pc' := 282) 10 rfl D_Md_comes_9.1.2.2.1 rfl) ?_
      refine z_s I (s_lload (pc' := 284) 0 rfl D_Md_comes_9.1.2.2.2 rfl) ?_
      refine z_s I (s_lsub (pc' := 285) D_Md_comes_9.2.1.1.1 rfl) ?_
      refine z_bL (inL_w64 _) (fun v13 e14 f15 => ?_)
      refine z_s I (s_lstore (pc' := 287) (lv' := [(13, vL v13), (19, vL s0), (0, vR ad o), (1, vI x1), (2, vI x2), (3, vI x3), (4, vI x4), (5, vI x5), (7, vI x7), (8, vI x8), (11, vL l11), (15, vI x15)]) D_Md_comes_9.2.1.1.2 (by decide) rfl rfl) ?_
      refine z_s I (s_iinc (pc' := 290) (lv' := [(15, vI (w32 (x15 + 1))), (13, vL v13), (19, vL s0), (0, vR ad o), (1, vI x1), (2, vI x2), (3, vI x3), (4, vI x4), (5, vI x5), (7, vI x7), (8, vI x8), (11, vL l11)]) (n := 11) rfl D_Md_comes_9.2.1.2.1 (by decide) rfl rfl) ?_
      refine z_s I (s_goto (tgt := 190) D_Md_comes_9.2.1.2.2 rfl) ?_
      refine z_s I (s_lv (lv' := [(0, vR ad o), (1, vI x1), (2, vI x2), (3, vI x3), (4, vI x4), (5, vI x5), (7, vI x7), (8, vI x8), (11, vL l11), (13, vL v13), (15, vI (w32 (x15 + 1)))]) [3, 4, 5, 6, 7, 8, 9, 10, 11, 1, 0] rfl) ?_
      exact z_end (fun g => hin1_1 _ g ⟨f15, (inR_w32 _)⟩)
    have J247 : ∀ (l13 : Int) (al13 : inL l13) (x15 : Int) (ax15 : inR x15) (s0 : Int) (as0 : inL s0) (h : HP), Z Y (m_Md_comes_J247 o x1 x2 x3 x4 x5 x7 x8 l11 l13 x15 s0 h) G1 h 247 [(0, vR ad o), (1, vI x1), (2, vI x2), (3, vI x3), (4, vI x4), (5, vI x5), (7, vI x7), (8, vI x8), (11, vL l11), (13, vL l13), (15, vI x15)] [vL s0] := by
      intro l13 al13 x15 ax15 s0 as0 h
      unfold m_Md_comes_J247
      refine z_s I (s_lstore (pc' := 249) (lv' := [(17, vL s0), (0, vR ad o), (1, vI x1), (2, vI x2), (3, vI x3), (4, vI x4), (5, vI x5), (7, vI x7), (8, vI x8), (11, vL l11), (13, vL l13), (15, vI x15)]) D_Md_comes_8.1.2.1.2 (by decide) rfl rfl) ?_
      refine z_s I (s_iload (pc' := 251) 5 rfl D_Md_comes_8.1.2.2.1 rfl) ?_
      refine z_s I (s_iconst (pc' := 252) D_Md_comes_8.1.2.2.2 rfl) ?_
      refine z_icmp_ge (tgt := 263) (pc' := 255) I ax4 (inR_c (x := 2) rfl) D_Md_comes_8.2.1.1.1 rfl rfl (fun c16 => ?_) (fun c16 => ?_)
      · refine z_s I (s_lload (pc' := 265) 0 rfl D_Md_comes_8.2.2.1.2 rfl) ?_
        refine z_s I (s_lv (lv' := [(0, vR ad o), (1, vI x1), (2, vI x2), (3, vI x3), (4, vI x4), (5, vI x5), (7, vI x7), (8, vI x8), (11, vL l11), (13, vL l13), (15, vI x15)]) [1, 2, 3, 4, 5, 6, 7, 8, 9, 10, 11] rfl) ?_
        exact J265 _ al13 _ ax15 _ as0 _
      · refine z_s I (s_lload (pc' := 257) 0 rfl D_Md_comes_8.2.1.1.2 rfl) ?_
        refine z_s I (s_lload (pc' := 259) 0 rfl D_Md_comes_8.2.1.2.1 rfl) ?_
        refine z_s I (s_lmul (pc' := 260) D_Md_comes_8.2.1.2.2 rfl) ?_
        refine z_s I (s_goto (tgt := 265) D_Md_comes_8.2.2.1.1 rfl) ?_
        refine z_s I (s_lv (lv' := [(0, vR ad o), (1, vI x1), (2, vI x2), (3, vI x3), (4, vI x4), (5, vI x5), (7, vI x7), (8, vI x8), (11, vL l11), (13, vL l13), (15, vI x15)]) [1, 2, 3, 4, 5, 6, 7, 8, 9, 10, 11] rfl) ?_
        exact J265 _ al13 _ ax15 _ (inL_w64 _) _
    have J226 : ∀ (l13 : Int) (al13 : inL l13) (x15 : Int) (ax15 : inR x15) (s0 : Int) (as0 : b01 s0) (h : HP), Z Y (m_Md_comes_J226 o x1 x2 x3 x4 x5 x7 x8 l11 l13 x15 s0 h) G1 h 226 [(0, vR ad o), (1, vI x1), (2, vI x2), (3, vI x3), (4, vI x4), (5, vI x5), (7, vI x7), (8, vI x8), (11, vL l11), (13, vL l13), (15, vI x15)] [vI s0] := by
      intro l13 al13 x15 ax15 s0 as0 h
      unfold m_Md_comes_J226
      refine z_s I (s_istore (pc' := 228) (lv' := [(16, vI s0), (0, vR ad o), (1, vI x1), (2, vI x2), (3, vI x3), (4, vI x4), (5, vI x5), (7, vI x7), (8, vI x8), (11, vL l11), (13, vL l13), (15, vI x15)]) D_Md_comes_7.2.1.1.2 (by decide) rfl rfl) ?_
      refine z_s I (s_iload (pc' := 230) 0 rfl D_Md_comes_7.2.1.2.1 rfl) ?_
      refine z_if_eq (tgt := 246) (pc' := 233) I (b01.R as0) D_Md_comes_7.2.1.2.2 rfl rfl (fun c17 => ?_) (fun c17 => ?_)
      · refine z_s I (s_lconst (pc' := 247) (x := 0) D_Md_comes_8.1.2.1.1 rfl rfl) ?_
        refine z_s I (s_lv (lv' := [(0, vR ad o), (1, vI x1), (2, vI x2), (3, vI x3), (4, vI x4), (5, vI x5), (7, vI x7), (8, vI x8), (11, vL l11), (13, vL l13), (15, vI x15)]) [1, 2, 3, 4, 5, 6, 7, 8, 9, 10, 11] rfl) ?_
        exact J247 _ al13 _ ax15 _ (inL_c (x := 0) rfl) _
      · refine z_s I (s_aload_n (pc' := 234) 1 rfl D_Md_comes_7.2.2.1.1 rfl rfl) ?_
        refine z_s I (s_iload_n (pc' := 235) 2 rfl D_Md_comes_7.2.2.1.2 rfl rfl) ?_
        refine z_s I (s_iload (pc' := 237) 11 rfl D_Md_comes_7.2.2.2.1 rfl) ?_
        refine z_s I (s_iload_n (pc' := 238) 3 rfl D_Md_comes_7.2.2.2.2 rfl rfl) ?_
        refine z_s I (s_iload_n (pc' := 239) 4 rfl D_Md_comes_8.1.1.1.1 rfl rfl) ?_
        refine z_b1 (fun r20 q19 => ?_)
        refine z_callV (pc' := 242) I mv_Md_shareOf ml_Md_227 (fun ad => [vI x1, vI x15, vI x2, vI x3]) ⟨Nat.le_of_ble_eq_true rfl, Nat.le_of_ble_eq_true rfl⟩ ao (fun hh => c_Md_shareOf hw ao ax1 ax15 ax2 ax3 hh q19) rfl rfl (Nat.le_of_ble_eq_true rfl) D_Md_comes_8.1.1.1.2 rfl (fun f18 => ?_)
        refine z_s I (s_i2l (pc' := 243) f18 D_Md_comes_8.1.1.2.1 rfl) ?_
        refine z_s I (s_goto (tgt := 247) D_Md_comes_8.1.1.2.2 rfl) ?_
        refine z_s I (s_lv (lv' := [(0, vR ad o), (1, vI x1), (2, vI x2), (3, vI x3), (4, vI x4), (5, vI x5), (7, vI x7), (8, vI x8), (11, vL l11), (13, vL l13), (15, vI x15)]) [1, 2, 3, 4, 5, 6, 7, 8, 9, 10, 11] rfl) ?_
        exact J247 _ al13 _ ax15 _ (f18).L _
    have J221 : ∀ (l13 : Int) (al13 : inL l13) (x15 : Int) (ax15 : inR x15) (h : HP), Z Y (m_Md_comes_J221 o x1 x2 x3 x4 x5 x7 x8 l11 l13 x15 h) G1 h 221 [(0, vR ad o), (1, vI x1), (2, vI x2), (3, vI x3), (4, vI x4), (5, vI x5), (7, vI x7), (8, vI x8), (11, vL l11), (13, vL l13), (15, vI x15)] [] := by
      intro l13 al13 x15 ax15 h
      unfold m_Md_comes_J221
      refine z_s I (s_iconst (pc' := 222) D_Md_comes_7.1.2.2.1 rfl) ?_
      refine z_s I (s_goto (tgt := 226) D_Md_comes_7.1.2.2.2 rfl) ?_
      exact J226 _ al13 _ ax15 _ bz1 _
    have J225 : ∀ (l13 : Int) (al13 : inL l13) (x15 : Int) (ax15 : inR x15) (h : HP), Z Y (m_Md_comes_J225 o x1 x2 x3 x4 x5 x7 x8 l11 l13 x15 h) G1 h 225 [(0, vR ad o), (1, vI x1), (2, vI x2), (3, vI x3), (4, vI x4), (5, vI x5), (7, vI x7), (8, vI x8), (11, vL l11), (13, vL l13), (15, vI x15)] [] := by
      intro l13 al13 x15 ax15 h
      unfold m_Md_comes_J225
      refine z_s I (s_iconst (pc' := 226) D_Md_comes_7.2.1.1.1 rfl) ?_
      exact J226 _ al13 _ ax15 _ bz0 _
    have J208 : ∀ (l13 : Int) (al13 : inL l13) (x15 : Int) (ax15 : inR x15) (h : HP), Z Y (m_Md_comes_J208 o x1 x2 x3 x4 x5 x7 x8 l11 l13 x15 h) G1 h 208 [(0, vR ad o), (1, vI x1), (2, vI x2), (3, vI x3), (4, vI x4), (5, vI x5), (7, vI x7), (8, vI x8), (11, vL l11), (13, vL l13), (15, vI x15)] [] := by
      intro l13 al13 x15 ax15 h
      unfold m_Md_comes_J208
      refine z_s I (s_iload (pc' := 210) 4 rfl D_Md_comes_7.1.1.1.1 rfl) ?_
      refine z_s I (s_iconst (pc' := 211) D_Md_comes_7.1.1.1.2 rfl) ?_
      refine z_icmp_lt (tgt := 221) (pc' := 214) I ax4 (inR_c (x := 2) rfl) D_Md_comes_7.1.1.2.1 rfl rfl (fun c21 => ?_) (fun c21 => ?_)
      · exact J221 _ al13 _ ax15 _
      · refine z_s I (s_iload (pc' := 216) 10 rfl D_Md_comes_7.1.1.2.2 rfl) ?_
        refine z_s I (s_iload (pc' := 218) 5 rfl D_Md_comes_7.1.2.1.1 rfl) ?_
        refine z_icmp_ne (tgt := 225) (pc' := 221) I ax15 ax5 D_Md_comes_7.1.2.1.2 rfl rfl (fun c22 => ?_) (fun c22 => ?_)
        · exact J225 _ al13 _ ax15 _
        · exact J221 _ al13 _ ax15 _
    show Z Y (m_Md_comes_L190b o x1 x2 x3 x4 x5 x7 x8 l11 l13 x15 h) G1 h 190 [(0, vR ad o), (1, vI x1), (2, vI x2), (3, vI x3), (4, vI x4), (5, vI x5), (7, vI x7), (8, vI x8), (11, vL l11), (13, vL l13), (15, vI x15)] []
    unfold m_Md_comes_L190b
    refine z_s I (s_iload (pc' := 192) 10 rfl D_Md_comes_6.2.1.1.1 rfl) ?_
    refine z_s I (s_iconst (pc' := 193) D_Md_comes_6.2.1.1.2 rfl) ?_
    refine z_icmp_ge (tgt := 293) (pc' := 196) I ax15 (inR_c (x := 4) rfl) D_Md_comes_6.2.1.2.1 rfl rfl (fun c23 => ?_) (fun c23 => ?_)
    · refine z_map _ (fun x g => hout1 x g) ?_
      refine z_s I (s_lv (lv' := [(0, vR ad o), (11, vL l11), (13, vL l13)]) [0, 8, 9] rfl) ?_
      exact J293 _ al11 _ al13 _
    · refine z_s I (s_iload (pc' := 198) 7 rfl D_Md_comes_6.2.1.2.2 rfl) ?_
      refine z_if_eq (tgt := 208) (pc' := 201) I (b01.R ax8) D_Md_comes_6.2.2.1.1 rfl rfl (fun c24 => ?_) (fun c24 => ?_)
      · exact J208 _ al13 _ ax15 _
      · refine z_s I (s_iload (pc' := 203) 10 rfl D_Md_comes_6.2.2.1.2 rfl) ?_
        refine z_s I (s_iload (pc' := 205) 6 rfl D_Md_comes_6.2.2.2.1 rfl) ?_
        refine z_icmp_eq (tgt := 225) (pc' := 208) I ax15 ax7 D_Md_comes_6.2.2.2.2 rfl rfl (fun c25 => ?_) (fun c25 => ?_)
        · exact J225 _ al13 _ ax15 _
        · exact J208 _ al13 _ ax15 _
  have J157 : ∀ (x5 : Int) (ax5 : inR x5) (x7 : Int) (ax7 : inR x7) (x8 : Int) (ax8 : b01 x8) (s0 : Int) (as0 : ok τ (4, 10) s0) (s1 : Int) (as1 : inR s1) (s2 : Int) (as2 : inR s2) (h : HP), Z Y (m_Md_comes_J157 o x1 x2 x3 x4 x5 x7 x8 s0 s1 s2 h) G0 h 157 [(0, vR ad o), (1, vI x1), (2, vI x2), (3, vI x3), (4, vI x4), (5, vI x5), (7, vI x7), (8, vI x8)] [vI s2, vI s1, vR ad s0] := by
    intro x5 ax5 x7 ax7 x8 ax8 s0 as0 s1 as1 s2 as2 h
    unfold m_Md_comes_J157
    refine z_s I (s_iload_n (pc' := 158) 2 rfl D_Md_comes_5.1.2.2.1 rfl rfl) ?_
    refine z_s I (s_iload_n (pc' := 159) 3 rfl D_Md_comes_5.1.2.2.2 rfl rfl) ?_
    refine z_b1 (fun r28 q27 => ?_)
    refine z_callV (pc' := 162) I mv_Md_sumBut ml_Md_233 (fun ad => [vI s1, vI s2, vI x2, vI x3]) ⟨Nat.le_of_ble_eq_true rfl, Nat.le_of_ble_eq_true rfl⟩ as0 (fun hh => c_Md_sumBut hw as0 as1 as2 ax2 ax3 hh q27) rfl rfl (Nat.le_of_ble_eq_true rfl) D_Md_comes_5.2.1.1.1 rfl (fun f26 => ?_)
    refine z_s I (s_i2l (pc' := 163) f26 D_Md_comes_5.2.1.1.2 rfl) ?_
    refine z_s I (s_lstore (pc' := 165) (lv' := [(9, vL r28), (0, vR ad o), (1, vI x1), (2, vI x2), (3, vI x3), (4, vI x4), (5, vI x5), (7, vI x7), (8, vI x8)]) D_Md_comes_5.2.1.2.1 (by decide) rfl rfl) ?_
    refine z_s I (s_iload (pc' := 167) 5 rfl D_Md_comes_5.2.1.2.2 rfl) ?_
    refine z_s I (s_iconst (pc' := 168) D_Md_comes_5.2.2.1.1 rfl) ?_
    refine z_icmp_ge (tgt := 179) (pc' := 171) I ax4 (inR_c (x := 2) rfl) D_Md_comes_5.2.2.1.2 rfl rfl (fun c29 => ?_) (fun c29 => ?_)
    · refine z_s I (s_lload (pc' := 181) 0 rfl D_Md_comes_6.1.1.2.1 rfl) ?_
      refine z_s I (s_lstore (pc' := 183) (lv' := [(11, vL r28), (9, vL r28), (0, vR ad o), (1, vI x1), (2, vI x2), (3, vI x3), (4, vI x4), (5, vI x5), (7, vI x7), (8, vI x8)]) D_Md_comes_6.1.1.2.2 (by decide) rfl rfl) ?_
      refine z_s I (s_lload (pc' := 185) 0 rfl D_Md_comes_6.1.2.1.1 rfl) ?_
      refine z_s I (s_lstore (pc' := 187) (lv' := [(13, vL r28), (11, vL r28), (9, vL r28), (0, vR ad o), (1, vI x1), (2, vI x2), (3, vI x3), (4, vI x4), (5, vI x5), (7, vI x7), (8, vI x8)]) D_Md_comes_6.1.2.1.2 (by decide) rfl rfl) ?_
      refine z_s I (s_iconst (pc' := 188) D_Md_comes_6.1.2.2.1 rfl) ?_
      refine z_s I (s_istore (pc' := 190) (lv' := [(15, vI 0), (13, vL r28), (11, vL r28), (9, vL r28), (0, vR ad o), (1, vI x1), (2, vI x2), (3, vI x3), (4, vI x4), (5, vI x5), (7, vI x7), (8, vI x8)]) D_Md_comes_6.1.2.2.2 (by decide) rfl rfl) ?_
      refine z_s I (s_lv (lv' := [(0, vR ad o), (1, vI x1), (2, vI x2), (3, vI x3), (4, vI x4), (5, vI x5), (7, vI x7), (8, vI x8), (11, vL r28), (13, vL r28), (15, vI 0)]) [4, 5, 6, 7, 8, 9, 10, 11, 2, 1, 0] rfl) ?_
      exact L190 _ ax5 _ ax7 _ ax8 _ (f26).L _ ⟨(f26).L, (b01.R bz0)⟩
    · refine z_s I (s_lload (pc' := 173) 0 rfl D_Md_comes_5.2.2.2.1 rfl) ?_
      refine z_s I (s_lload (pc' := 175) 0 rfl D_Md_comes_5.2.2.2.2 rfl) ?_
      refine z_s I (s_lmul (pc' := 176) D_Md_comes_6.1.1.1.1 rfl) ?_
      refine z_s I (s_goto (tgt := 181) D_Md_comes_6.1.1.1.2 rfl) ?_
      refine z_bL (inL_w64 _) (fun v30 e31 f32 => ?_)
      refine z_s I (s_lstore (pc' := 183) (lv' := [(11, vL v30), (9, vL r28), (0, vR ad o), (1, vI x1), (2, vI x2), (3, vI x3), (4, vI x4), (5, vI x5), (7, vI x7), (8, vI x8)]) D_Md_comes_6.1.1.2.2 (by decide) rfl rfl) ?_
      refine z_s I (s_lload (pc' := 185) 0 rfl D_Md_comes_6.1.2.1.1 rfl) ?_
      refine z_s I (s_lstore (pc' := 187) (lv' := [(13, vL v30), (11, vL v30), (9, vL r28), (0, vR ad o), (1, vI x1), (2, vI x2), (3, vI x3), (4, vI x4), (5, vI x5), (7, vI x7), (8, vI x8)]) D_Md_comes_6.1.2.1.2 (by decide) rfl rfl) ?_
      refine z_s I (s_iconst (pc' := 188) D_Md_comes_6.1.2.2.1 rfl) ?_
      refine z_s I (s_istore (pc' := 190) (lv' := [(15, vI 0), (13, vL v30), (11, vL v30), (9, vL r28), (0, vR ad o), (1, vI x1), (2, vI x2), (3, vI x3), (4, vI x4), (5, vI x5), (7, vI x7), (8, vI x8)]) D_Md_comes_6.1.2.2.2 (by decide) rfl rfl) ?_
      refine z_s I (s_lv (lv' := [(0, vR ad o), (1, vI x1), (2, vI x2), (3, vI x3), (4, vI x4), (5, vI x5), (7, vI x7), (8, vI x8), (11, vL v30), (13, vL v30), (15, vI 0)]) [4, 5, 6, 7, 8, 9, 10, 11, 2, 1, 0] rfl) ?_
      exact L190 _ ax5 _ ax7 _ ax8 _ f32 _ ⟨f32, (b01.R bz0)⟩
  have J144 : ∀ (x5 : Int) (ax5 : inR x5) (x7 : Int) (ax7 : inR x7) (x8 : Int) (ax8 : b01 x8) (h : HP), Z Y (m_Md_comes_J144 o x1 x2 x3 x4 x5 x7 x8 h) G0 h 144 [(0, vR ad o), (1, vI x1), (2, vI x2), (3, vI x3), (4, vI x4), (5, vI x5), (7, vI x7), (8, vI x8)] [] := by
    intro x5 ax5 x7 ax7 x8 ax8 h
    unfold m_Md_comes_J144
    refine z_s I (s_aload_n (pc' := 145) 0 rfl D_Md_comes_4.2.2.2.2 rfl rfl) ?_
    refine z_s I (s_iload_n (pc' := 146) 1 rfl D_Md_comes_5.1.1.1.1 rfl rfl) ?_
    refine z_s I (s_iload (pc' := 148) 7 rfl D_Md_comes_5.1.1.1.2 rfl) ?_
    refine z_if_eq (tgt := 156) (pc' := 151) I (b01.R ax8) D_Md_comes_5.1.1.2.1 rfl rfl (fun c33 => ?_) (fun c33 => ?_)
    · refine z_s I (s_iconst (pc' := 157) D_Md_comes_5.1.2.1.2 rfl) ?_
      exact J157 _ ax5 _ ax7 _ ax8 _ ao _ ax1 _ (inR_c (x := (-1)) rfl) _
    · refine z_s I (s_iload (pc' := 153) 6 rfl D_Md_comes_5.1.1.2.2 rfl) ?_
      refine z_s I (s_goto (tgt := 157) D_Md_comes_5.1.2.1.1 rfl) ?_
      exact J157 _ ax5 _ ax7 _ ax8 _ ao _ ax1 _ ax7 _
  have J140 : ∀ (s0 : Int) (as0 : ok τ (4, 10) s0) (s1 : Int) (as1 : inL s1) (s2 : Int) (as2 : inR s2) (h : HP), Z Y (m_Md_comes_J140 s0 s1 s2 h) G0 h 140 [] [vI s2, vL s1, vR ad s0] := by
    intro s0 as0 s1 as1 s2 as2 h
    unfold m_Md_comes_J140
    refine z_b1 (fun h36 q35 => ?_)
    refine z_callV (pc' := 143) I mv_Md_adds ml_Md_244 (fun ad => [vL s1, vI s2]) ⟨Nat.le_of_ble_eq_true rfl, Nat.le_of_ble_eq_true rfl⟩ as0 (fun hh => c_Md_adds hw as0 as1 as2 hh q35) rfl rfl (Nat.le_of_ble_eq_true rfl) D_Md_comes_4.2.2.1.2 rfl (fun f34 => ?_)
    exact z_ret (w := none) I (fun g => gk0 _ g) rfl D_Md_comes_4.2.2.2.1 rfl
  have J121 : ∀ (x5 : Int) (ax5 : inR x5) (x6 : Int) (ax6 : inR x6) (h : HP), Z Y (m_Md_comes_J121 o x5 x6 h) G0 h 121 [(0, vR ad o), (5, vI x5), (6, vI x6)] [] := by
    intro x5 ax5 x6 ax6 h
    unfold m_Md_comes_J121
    refine z_s I (s_aload_n (pc' := 122) 0 rfl D_Md_comes_4.1.1.2.1 rfl rfl) ?_
    refine z_s I (s_lconst (pc' := 123) (x := 1) D_Md_comes_4.1.1.2.2 rfl rfl) ?_
    refine z_s I (s_iload (pc' := 125) 1 rfl D_Md_comes_4.1.2.1.1 rfl) ?_
    refine z_s I (s_iload (pc' := 127) 2 rfl D_Md_comes_4.1.2.1.2 rfl) ?_
    refine z_icmp_ne (tgt := 139) (pc' := 130) I ax5 ax6 D_Md_comes_4.1.2.2.1 rfl rfl (fun c37 => ?_) (fun c37 => ?_)
    · refine z_s I (s_iconst (pc' := 140) D_Md_comes_4.2.2.1.1 rfl) ?_
      refine z_s I (s_lv (lv' := []) [] rfl) ?_
      exact J140 _ ao _ (inL_c (x := 1) rfl) _ (b01.R bz0) _
    · refine z_s I (s_aload_n (pc' := 131) 0 rfl D_Md_comes_4.1.2.2.2 rfl rfl) ?_
      refine z_getR (pc' := 134) (eI := o + 7) I g_Md_34 ao rfl (by omega) D_Md_comes_4.2.1.1.1 rfl ?_
      have k38 : ok τ (0, 6) (o + 7) := r_Md_used hw ao (by omega)
      refine z_s I (s_iconst (pc' := 135) D_Md_comes_4.2.1.1.2 rfl) ?_
      refine z_g (c := 0 ≤ (4 : Int) ∧ (4 : Int) < 6) (by decide) ?_
      refine z_iald (pc' := 136) (nI := 6) I k38 (inR_c (x := 4) rfl) rfl D_Md_comes_4.2.1.2.1 rfl (fun c39 f40 => ?_)
      refine z_s I (s_goto (tgt := 140) D_Md_comes_4.2.1.2.2 rfl) ?_
      refine z_s I (s_lv (lv' := []) [] rfl) ?_
      exact J140 _ ao _ (inL_c (x := 1) rfl) _ f40 _
  have J100 : ∀ (x5 : Int) (ax5 : inR x5) (x6 : Int) (ax6 : inR x6) (x7 : Int) (ax7 : inR x7) (s0 : Int) (as0 : b01 s0) (h : HP), Z Y (m_Md_comes_J100 o x1 x2 x3 x4 x5 x6 x7 s0 h) G0 h 100 [(0, vR ad o), (1, vI x1), (2, vI x2), (3, vI x3), (4, vI x4), (5, vI x5), (6, vI x6), (7, vI x7)] [vI s0] := by
    intro x5 ax5 x6 ax6 x7 ax7 s0 as0 h
    unfold m_Md_comes_J100
    refine z_s I (s_istore (pc' := 102) (lv' := [(8, vI s0), (0, vR ad o), (1, vI x1), (2, vI x2), (3, vI x3), (4, vI x4), (5, vI x5), (6, vI x6), (7, vI x7)]) D_Md_comes_3.2.1.1.2 (by decide) rfl rfl) ?_
    refine z_s I (s_iload (pc' := 104) 0 rfl D_Md_comes_3.2.1.2.1 rfl) ?_
    refine z_if_eq (tgt := 144) (pc' := 107) I (b01.R as0) D_Md_comes_3.2.1.2.2 rfl rfl (fun c41 => ?_) (fun c41 => ?_)
    · refine z_s I (s_lv (lv' := [(0, vR ad o), (1, vI x1), (2, vI x2), (3, vI x3), (4, vI x4), (5, vI x5), (7, vI x7), (8, vI s0)]) [1, 2, 3, 4, 5, 6, 8, 0] rfl) ?_
      exact J144 _ ax5 _ ax7 _ as0 _
    · refine z_s I (s_iload (pc' := 109) 6 rfl D_Md_comes_3.2.2.1.1 rfl) ?_
      refine z_s I (s_iload (pc' := 111) 8 rfl D_Md_comes_3.2.2.1.2 rfl) ?_
      refine z_icmp_eq (tgt := 121) (pc' := 114) I ax5 ax7 D_Md_comes_3.2.2.2.1 rfl rfl (fun c42 => ?_) (fun c42 => ?_)
      · refine z_s I (s_lv (lv' := [(0, vR ad o), (5, vI x5), (6, vI x6)]) [1, 6, 7] rfl) ?_
        exact J121 _ ax5 _ ax6 _
      · refine z_s I (s_iload (pc' := 116) 7 rfl D_Md_comes_3.2.2.2.2 rfl) ?_
        refine z_s I (s_iload (pc' := 118) 8 rfl D_Md_comes_4.1.1.1.1 rfl) ?_
        refine z_icmp_ne (tgt := 144) (pc' := 121) I ax6 ax7 D_Md_comes_4.1.1.1.2 rfl rfl (fun c43 => ?_) (fun c43 => ?_)
        · refine z_s I (s_lv (lv' := [(0, vR ad o), (1, vI x1), (2, vI x2), (3, vI x3), (4, vI x4), (5, vI x5), (7, vI x7), (8, vI s0)]) [1, 2, 3, 4, 5, 6, 8, 0] rfl) ?_
          exact J144 _ ax5 _ ax7 _ as0 _
        · refine z_s I (s_lv (lv' := [(0, vR ad o), (5, vI x5), (6, vI x6)]) [1, 6, 7] rfl) ?_
          exact J121 _ ax5 _ ax6 _
  have J95 : ∀ (x5 : Int) (ax5 : inR x5) (x6 : Int) (ax6 : inR x6) (x7 : Int) (ax7 : inR x7) (h : HP), Z Y (m_Md_comes_J95 o x1 x2 x3 x4 x5 x6 x7 h) G0 h 95 [(0, vR ad o), (1, vI x1), (2, vI x2), (3, vI x3), (4, vI x4), (5, vI x5), (6, vI x6), (7, vI x7)] [] := by
    intro x5 ax5 x6 ax6 x7 ax7 h
    unfold m_Md_comes_J95
    refine z_s I (s_iconst (pc' := 96) D_Md_comes_3.1.2.2.1 rfl) ?_
    refine z_s I (s_goto (tgt := 100) D_Md_comes_3.1.2.2.2 rfl) ?_
    exact J100 _ ax5 _ ax6 _ ax7 _ bz1 _
  have J83 : ∀ (x5 : Int) (ax5 : inR x5) (x6 : Int) (ax6 : inR x6) (x7 : Int) (ax7 : inR x7) (h : HP), Z Y (m_Md_comes_J83 o x1 x2 x3 x4 x5 x6 x7 h) G0 h 83 [(0, vR ad o), (1, vI x1), (2, vI x2), (3, vI x3), (4, vI x4), (5, vI x5), (6, vI x6), (7, vI x7)] [] := by
    intro x5 ax5 x6 ax6 x7 ax7 h
    unfold m_Md_comes_J83
    refine z_s I (s_iload (pc' := 85) 4 rfl D_Md_comes_3.1.1.1.1 rfl) ?_
    refine z_s I (s_iconst (pc' := 86) D_Md_comes_3.1.1.1.2 rfl) ?_
    refine z_icmp_eq (tgt := 95) (pc' := 89) I ax4 (b01.R bz1) D_Md_comes_3.1.1.2.1 rfl rfl (fun c44 => ?_) (fun c44 => ?_)
    · exact J95 _ ax5 _ ax6 _ ax7 _
    · refine z_s I (s_iload (pc' := 91) 4 rfl D_Md_comes_3.1.1.2.2 rfl) ?_
      refine z_s I (s_iconst (pc' := 92) D_Md_comes_3.1.2.1.1 rfl) ?_
      refine z_icmp_ne (tgt := 99) (pc' := 95) I ax4 (inR_c (x := 3) rfl) D_Md_comes_3.1.2.1.2 rfl rfl (fun c45 => ?_) (fun c45 => ?_)
      · refine z_s I (s_iconst (pc' := 100) D_Md_comes_3.2.1.1.1 rfl) ?_
        exact J100 _ ax5 _ ax6 _ ax7 _ bz0 _
      · exact J95 _ ax5 _ ax6 _ ax7 _
  have L48 : ∀ (x5 : Int) (ax5 : inR x5) (x6 : Int) (ax6 : inR x6) (x7 : Int) (ax7 : inR x7) (s : Int × HP), (inR (s.1)) → Z Y (m_Md_comes_L48 o x1 x2 x3 x4 x5 x6 x7 s) G0 (s.2) 48 [(0, vR ad o), (1, vI x1), (2, vI x2), (3, vI x3), (4, vI x4), (5, vI x5), (6, vI x6), (7, vI x7), (8, vI (s.1))] [] := by
    intro x5 ax5 x6 ax6 x7 ax7 s hs
    refine z_loop (G := G0) (hO := fun s : Int × HP => s.2) (lO := fun s : Int × HP => [(0, vR ad o), (1, vI x1), (2, vI x2), (3, vI x3), (4, vI x4), (5, vI x5), (6, vI x6), (7, vI x7), (8, vI (s.1))]) (Φ := fun s : Int × HP => inR (s.1)) (fun G1 hin1_1 hout1 s hs => ?_) FUEL s hs
    obtain ⟨x8, h⟩ := s
    have ax8 := hs
    have gk1 := fun (x : HP) (g : G1 (.inr (x))) => gk0 x (hout1 _ g)
    show Z Y (m_Md_comes_L48b o x1 x2 x3 x4 x5 x6 x7 x8 h) G1 h 48 [(0, vR ad o), (1, vI x1), (2, vI x2), (3, vI x3), (4, vI x4), (5, vI x5), (6, vI x6), (7, vI x7), (8, vI x8)] []
    unfold m_Md_comes_L48b
    refine z_s I (s_iload (pc' := 50) 8 rfl D_Md_comes_1.2.2.2.1 rfl) ?_
    refine z_s I (s_bipush (pc' := 52) D_Md_comes_1.2.2.2.2 rfl rfl) ?_
    refine z_icmp_ge (tgt := 83) (pc' := 55) I ax8 (inR_c (x := 33) rfl) D_Md_comes_2.1.1.1.1 rfl rfl (fun c46 => ?_) (fun c46 => ?_)
    · refine z_map _ (fun x g => hout1 x g) ?_
      refine z_s I (s_lv (lv' := [(0, vR ad o), (1, vI x1), (2, vI x2), (3, vI x3), (4, vI x4), (5, vI x5), (6, vI x6), (7, vI x7)]) [0, 1, 2, 3, 4, 5, 6, 7] rfl) ?_
      exact J83 _ ax5 _ ax6 _ ax7 _
    · refine z_s I (s_aload_n (pc' := 56) 0 rfl D_Md_comes_2.1.1.1.2 rfl rfl) ?_
      refine z_getR (pc' := 59) (eI := o + 17) I g_Md_65 ao rfl (by omega) D_Md_comes_2.1.1.2.1 rfl ?_
      have k47 : ok τ (1, 33) (o + 17) := r_Md_before hw ao (by omega)
      refine z_s I (s_iload (pc' := 61) 8 rfl D_Md_comes_2.1.1.2.2 rfl) ?_
      refine z_s I (s_aload_n (pc' := 62) 0 rfl D_Md_comes_2.1.2.1.1 rfl rfl) ?_
      refine z_getR (pc' := 65) (eI := o + 16) I g_Md_61 ao rfl (by omega) D_Md_comes_2.1.2.1.2 rfl ?_
      have k48 : ok τ (1, 33) (o + 16) := r_Md_ways hw ao (by omega)
      refine z_s I (s_iload (pc' := 67) 8 rfl D_Md_comes_2.1.2.2.1 rfl) ?_
      refine z_lald (pc' := 68) (nI := 33) I k48 ax8 rfl D_Md_comes_2.1.2.2.2 rfl (fun c49 f50 => ?_)
      refine z_last (pc' := 69) (nI := 33) I k47 ax8 f50 rfl D_Md_comes_2.2.1.1.1 rfl (fun c51 => ?_)
      refine z_bH (fun h52 e53 => ?_)
      refine z_s I (s_aload_n (pc' := 70) 0 rfl D_Md_comes_2.2.1.1.2 rfl rfl) ?_
      refine z_getR (pc' := 73) (eI := o + 16) I g_Md_61 ao rfl (by omega) D_Md_comes_2.2.1.2.1 rfl ?_
      have k54 : ok τ (1, 33) (o + 16) := r_Md_ways hw ao (by omega)
      refine z_s I (s_iload (pc' := 75) 8 rfl D_Md_comes_2.2.1.2.2 rfl) ?_
      refine z_s I (s_lconst (pc' := 76) (x := 0) D_Md_comes_2.2.2.1.1 rfl rfl) ?_
      refine z_last (pc' := 77) (nI := 33) I k54 ax8 (inL_c (x := 0) rfl) rfl D_Md_comes_2.2.2.1.2 rfl (fun c55 => ?_)
      refine z_bH (fun h56 e57 => ?_)
      refine z_s I (s_iinc (pc' := 80) (lv' := [(8, vI (w32 (x8 + 1))), (0, vR ad o), (1, vI x1), (2, vI x2), (3, vI x3), (4, vI x4), (5, vI x5), (6, vI x6), (7, vI x7)]) (n := 8) rfl D_Md_comes_2.2.2.2.1 (by decide) rfl rfl) ?_
      refine z_s I (s_goto (tgt := 48) D_Md_comes_2.2.2.2.2 rfl) ?_
      refine z_s I (s_lv (lv' := [(0, vR ad o), (1, vI x1), (2, vI x2), (3, vI x3), (4, vI x4), (5, vI x5), (6, vI x6), (7, vI x7), (8, vI (w32 (x8 + 1)))]) [1, 2, 3, 4, 5, 6, 7, 8, 0] rfl) ?_
      exact z_end (fun g => hin1_1 _ g (inR_w32 _))
  have main : Z Y (m_Md_comes o x1 x2 x3 x4 h) G0 h 0 [(0, vR ad o), (1, vI x1), (2, vI x2), (3, vI x3), (4, vI x4)] [] := by
    unfold m_Md_comes
    refine z_s I (s_aload_n (pc' := 1) 0 rfl D_Md_comes_0.1.1.1.1 rfl rfl) ?_
    refine z_getR (pc' := 4) (eI := o + 4) I g_Md_25 ao rfl (by omega) D_Md_comes_0.1.1.1.2 rfl ?_
    have k58 : ok τ (0, 64) (o + 4) := r_Md_given hw ao (by omega)
    refine z_s I (s_bipush (pc' := 6) D_Md_comes_0.1.1.2.1 rfl rfl) ?_
    refine z_s I (s_iload_n (pc' := 7) 2 rfl D_Md_comes_0.1.1.2.2 rfl rfl) ?_
    refine z_s I (s_imul (pc' := 8) D_Md_comes_0.1.2.1.1 rfl) ?_
    refine z_s I (s_iload_n (pc' := 9) 1 rfl D_Md_comes_0.1.2.1.2 rfl rfl) ?_
    refine z_s I (s_iadd (pc' := 10) D_Md_comes_0.1.2.2.1 rfl) ?_
    refine z_iald (pc' := 11) (nI := 64) I k58 (inR_w32 _) rfl D_Md_comes_0.1.2.2.2 rfl (fun c59 f60 => ?_)
    refine z_bI f60 (fun v61 e62 f63 => ?_)
    refine z_s I (s_istore (pc' := 13) (lv' := [(5, vI v61), (0, vR ad o), (1, vI x1), (2, vI x2), (3, vI x3), (4, vI x4)]) D_Md_comes_0.2.1.1.1 (by decide) rfl rfl) ?_
    refine z_s I (s_aload_n (pc' := 14) 1 rfl D_Md_comes_0.2.1.1.2 rfl rfl) ?_
    refine z_getR (pc' := 17) (eI := o + 4) I g_Md_25 ao rfl (by omega) D_Md_comes_0.2.1.2.1 rfl ?_
    have k64 : ok τ (0, 64) (o + 4) := r_Md_given hw ao (by omega)
    refine z_s I (s_bipush (pc' := 19) D_Md_comes_0.2.1.2.2 rfl rfl) ?_
    refine z_s I (s_iload_n (pc' := 20) 4 rfl D_Md_comes_0.2.2.1.1 rfl rfl) ?_
    refine z_s I (s_imul (pc' := 21) D_Md_comes_0.2.2.1.2 rfl) ?_
    refine z_s I (s_iload_n (pc' := 22) 2 rfl D_Md_comes_0.2.2.2.1 rfl rfl) ?_
    refine z_s I (s_iadd (pc' := 23) D_Md_comes_0.2.2.2.2 rfl) ?_
    refine z_iald (pc' := 24) (nI := 64) I k64 (inR_w32 _) rfl D_Md_comes_1.1.1.1.1 rfl (fun c65 f66 => ?_)
    refine z_bI f66 (fun v67 e68 f69 => ?_)
    refine z_s I (s_istore (pc' := 26) (lv' := [(6, vI v67), (5, vI v61), (0, vR ad o), (1, vI x1), (2, vI x2), (3, vI x3), (4, vI x4)]) D_Md_comes_1.1.1.1.2 (by decide) rfl rfl) ?_
    refine z_s I (s_aload_n (pc' := 27) 2 rfl D_Md_comes_1.1.1.2.1 rfl rfl) ?_
    refine z_getR (pc' := 30) (eI := o + 1) I g_Md_15 ao rfl (by omega) D_Md_comes_1.1.1.2.2 rfl ?_
    have k70 : ok τ (0, 8) (o + 1) := r_Md_right hw ao (by omega)
    refine z_s I (s_iload_n (pc' := 31) 3 rfl D_Md_comes_1.1.2.1.1 rfl rfl) ?_
    refine z_iald (pc' := 32) (nI := 8) I k70 ax1 rfl D_Md_comes_1.1.2.1.2 rfl (fun c71 f72 => ?_)
    refine z_bI f72 (fun v73 e74 f75 => ?_)
    refine z_s I (s_istore (pc' := 34) (lv' := [(7, vI v73), (6, vI v67), (5, vI v61), (0, vR ad o), (1, vI x1), (2, vI x2), (3, vI x3), (4, vI x4)]) D_Md_comes_1.1.2.2.1 (by decide) rfl rfl) ?_
    refine z_s I (s_iload (pc' := 36) 2 rfl D_Md_comes_1.1.2.2.2 rfl) ?_
    refine z_if_lt (tgt := 44) (pc' := 39) I f63 D_Md_comes_1.2.1.1.1 rfl rfl (fun c76 => ?_) (fun c76 => ?_)
    · exact z_ret (w := none) I (fun g => gk0 _ g) rfl D_Md_comes_1.2.1.2.2 rfl
    · refine z_s I (s_iload (pc' := 41) 1 rfl D_Md_comes_1.2.1.1.2 rfl) ?_
      refine z_if_ge (tgt := 45) (pc' := 44) I f69 D_Md_comes_1.2.1.2.1 rfl rfl (fun c77 => ?_) (fun c77 => ?_)
      · refine z_s I (s_iconst (pc' := 46) D_Md_comes_1.2.2.1.1 rfl) ?_
        refine z_s I (s_istore (pc' := 48) (lv' := [(8, vI 0), (7, vI v73), (6, vI v67), (5, vI v61), (0, vR ad o), (1, vI x1), (2, vI x2), (3, vI x3), (4, vI x4)]) D_Md_comes_1.2.2.1.2 (by decide) rfl rfl) ?_
        refine z_s I (s_lv (lv' := [(0, vR ad o), (1, vI x1), (2, vI x2), (3, vI x3), (4, vI x4), (5, vI v61), (6, vI v67), (7, vI v73), (8, vI 0)]) [4, 5, 6, 7, 8, 3, 2, 1, 0] rfl) ?_
        exact L48 _ f63 _ f69 _ f75 _ (b01.R bz0)
      · exact z_ret (w := none) I (fun g => gk0 _ g) rfl D_Md_comes_1.2.1.2.2 rfl
  exact main _ hF (by rw [hG0])
set_option maxHeartbeats 4000000 in
set_option maxRecDepth 20000 in
theorem c_Md_spreads {l : Launch} {τ : TP} {o : Int} {x1 : Int} {x2 : Int} {x3 : Int} {x4 : Int} {h : HP} {h' : HP} (hw : wf τ) (ao : ok τ (4, 10) o) (ax1 : inR x1) (ax2 : inR x2) (ax3 : inR x3) (ax4 : inR x4) (hh : hr τ h) (hF : m_Md_spreads o x1 x2 x3 x4 h = some h') : Ctr l y_Md_spreads k_Md_spreads 6 (Option.none : Option FieldType) 4 116 τ (fun ad => [vR ad o, vI x1, vI x2, vI x3, vI x4]) h none h' (True) := by
  refine ctr_of (by decide) hw hh (fun ad => Nat.le_of_ble_eq_true rfl) (fun ad K Y I hK => ?_)
  obtain ⟨G0, hG0⟩ : ∃ G : HP → Prop, G = fun x => x = h' := ⟨_, rfl⟩
  have gk0 : ∀ (x : HP), G0 x → K none x := fun x g => by
    rw [hG0] at g
    cases g
    exact hK trivial
  have L41 : ∀ (s : Int × HP), (inR (s.1)) → Z Y (m_Md_spreads_L41 o x1 x2 x3 x4 s) G0 (s.2) 41 [(0, vR ad o), (1, vI x1), (2, vI x2), (3, vI x3), (4, vI x4), (5, vI (s.1))] [] := by
    intro s hs
    refine z_loop (G := G0) (hO := fun s : Int × HP => s.2) (lO := fun s : Int × HP => [(0, vR ad o), (1, vI x1), (2, vI x2), (3, vI x3), (4, vI x4), (5, vI (s.1))]) (Φ := fun s : Int × HP => inR (s.1)) (fun G1 hin1_1 hout1 s hs => ?_) FUEL s hs
    obtain ⟨x5, h⟩ := s
    have ax5 := hs
    have gk1 := fun (x : HP) (g : G1 (.inr (x))) => gk0 x (hout1 _ g)
    show Z Y (m_Md_spreads_L41b o x1 x2 x3 x4 x5 h) G1 h 41 [(0, vR ad o), (1, vI x1), (2, vI x2), (3, vI x3), (4, vI x4), (5, vI x5)] []
    unfold m_Md_spreads_L41b
    refine z_s I (s_iload (pc' := 43) 5 rfl D_Md_spreads_1.1.2.1.2 rfl) ?_
    refine z_s I (s_aload_n (pc' := 44) 0 rfl D_Md_spreads_1.1.2.2.1 rfl rfl) ?_
    refine z_getI (pc' := 47) (jI := 0) I g_Md_9 ao rfl rfl D_Md_spreads_1.1.2.2.2 rfl (fun f1 => ?_)
    refine z_icmp_ge (tgt := 72) (pc' := 50) I ax5 f1 D_Md_spreads_1.2.1.1.1 rfl rfl (fun c2 => ?_) (fun c2 => ?_)
    · exact z_ret (w := none) I (fun g => gk1 _ g) rfl D_Md_spreads_2.2.2.2 rfl
    · refine z_s I (s_iload (pc' := 52) 5 rfl D_Md_spreads_1.2.1.1.2 rfl) ?_
      refine z_s I (s_iload (pc' := 54) 4 rfl D_Md_spreads_1.2.1.2.1 rfl) ?_
      refine z_icmp_eq (tgt := 66) (pc' := 57) I ax5 ax4 D_Md_spreads_1.2.1.2.2 rfl rfl (fun c3 => ?_) (fun c3 => ?_)
      · refine z_s I (s_iinc (pc' := 69) (lv' := [(5, vI (w32 (x5 + 1))), (0, vR ad o), (1, vI x1), (2, vI x2), (3, vI x3), (4, vI x4)]) (n := 5) rfl D_Md_spreads_2.2.1 (by decide) rfl rfl) ?_
        refine z_s I (s_goto (tgt := 41) D_Md_spreads_2.2.2.1 rfl) ?_
        refine z_s I (s_lv (lv' := [(0, vR ad o), (1, vI x1), (2, vI x2), (3, vI x3), (4, vI x4), (5, vI (w32 (x5 + 1)))]) [1, 2, 3, 4, 5, 0] rfl) ?_
        exact z_end (fun g => hin1_1 _ g (inR_w32 _))
      · refine z_s I (s_aload_n (pc' := 58) 0 rfl D_Md_spreads_1.2.2.1.1 rfl rfl) ?_
        refine z_s I (s_iload (pc' := 60) 5 rfl D_Md_spreads_1.2.2.1.2 rfl) ?_
        refine z_s I (s_iload_n (pc' := 61) 1 rfl D_Md_spreads_1.2.2.2.1 rfl rfl) ?_
        refine z_s I (s_iload_n (pc' := 62) 2 rfl D_Md_spreads_1.2.2.2.2 rfl rfl) ?_
        refine z_s I (s_iload_n (pc' := 63) 3 rfl D_Md_spreads_2.1.1 rfl rfl) ?_
        refine z_b1 (fun h6 q5 => ?_)
        refine z_callV (pc' := 66) I mv_Md_comes ml_Md_252 (fun ad => [vI x5, vI x1, vI x2, vI x3]) ⟨Nat.le_of_ble_eq_true rfl, Nat.le_of_ble_eq_true rfl⟩ ao (fun hh => c_Md_comes hw ao ax5 ax1 ax2 ax3 hh q5) rfl rfl (Nat.le_of_ble_eq_true rfl) D_Md_spreads_2.1.2 rfl (fun f4 => ?_)
        refine z_s I (s_iinc (pc' := 69) (lv' := [(5, vI (w32 (x5 + 1))), (0, vR ad o), (1, vI x1), (2, vI x2), (3, vI x3), (4, vI x4)]) (n := 5) rfl D_Md_spreads_2.2.1 (by decide) rfl rfl) ?_
        refine z_s I (s_goto (tgt := 41) D_Md_spreads_2.2.2.1 rfl) ?_
        refine z_s I (s_lv (lv' := [(0, vR ad o), (1, vI x1), (2, vI x2), (3, vI x3), (4, vI x4), (5, vI (w32 (x5 + 1)))]) [1, 2, 3, 4, 5, 0] rfl) ?_
        exact z_end (fun g => hin1_1 _ g (inR_w32 _))
  have J33 : ∀ (h : HP), Z Y (m_Md_spreads_J33 o x1 x2 x3 x4 h) G0 h 33 [(0, vR ad o), (1, vI x1), (2, vI x2), (3, vI x3), (4, vI x4)] [] := by
    intro h
    unfold m_Md_spreads_J33
    refine z_s I (s_aload_n (pc' := 34) 0 rfl D_Md_spreads_1.1.1.1.1 rfl rfl) ?_
    refine z_s I (s_lconst (pc' := 35) (x := 1) D_Md_spreads_1.1.1.1.2 rfl rfl) ?_
    refine z_putL (pc' := 38) (jI := 28) I p_Md_248 ao rfl rfl (inL_c (x := 1) rfl) D_Md_spreads_1.1.1.2.1 rfl ?_
    refine z_bH (fun h7 e8 => ?_)
    refine z_s I (s_iconst (pc' := 39) D_Md_spreads_1.1.1.2.2 rfl) ?_
    refine z_s I (s_istore (pc' := 41) (lv' := [(5, vI 0), (0, vR ad o), (1, vI x1), (2, vI x2), (3, vI x3), (4, vI x4)]) D_Md_spreads_1.1.2.1.1 (by decide) rfl rfl) ?_
    refine z_s I (s_lv (lv' := [(0, vR ad o), (1, vI x1), (2, vI x2), (3, vI x3), (4, vI x4), (5, vI 0)]) [1, 2, 3, 4, 5, 0] rfl) ?_
    exact L41 _ (b01.R bz0)
  have L3 : ∀ (s : Int × HP), (inR (s.1)) → Z Y (m_Md_spreads_L3 o x1 x2 x3 x4 s) G0 (s.2) 3 [(0, vR ad o), (1, vI x1), (2, vI x2), (3, vI x3), (4, vI x4), (5, vI (s.1))] [] := by
    intro s hs
    refine z_loop (G := G0) (hO := fun s : Int × HP => s.2) (lO := fun s : Int × HP => [(0, vR ad o), (1, vI x1), (2, vI x2), (3, vI x3), (4, vI x4), (5, vI (s.1))]) (Φ := fun s : Int × HP => inR (s.1)) (fun G1 hin1_1 hout1 s hs => ?_) FUEL s hs
    obtain ⟨x5, h⟩ := s
    have ax5 := hs
    have gk1 := fun (x : HP) (g : G1 (.inr (x))) => gk0 x (hout1 _ g)
    have J26 : ∀ (x5 : Int) (ax5 : inR x5) (s0 : Int) (as0 : ok τ (1, 33) s0) (s1 : Int) (as1 : inR s1) (s2 : Int) (as2 : inL s2) (h : HP), Z Y (m_Md_spreads_J26 o x1 x2 x3 x4 x5 s0 s1 s2 h) G1 h 26 [(0, vR ad o), (1, vI x1), (2, vI x2), (3, vI x3), (4, vI x4), (5, vI x5)] [vL s2, vI s1, vR ad s0] := by
      intro x5 ax5 s0 as0 s1 as1 s2 as2 h
      unfold m_Md_spreads_J26
      refine z_last (pc' := 27) (nI := 33) I as0 as1 as2 rfl D_Md_spreads_0.2.2.1.2 rfl (fun c9 => ?_)
      refine z_bH (fun h10 e11 => ?_)
      refine z_s I (s_iinc (pc' := 30) (lv' := [(5, vI (w32 (x5 + 1))), (0, vR ad o), (1, vI x1), (2, vI x2), (3, vI x3), (4, vI x4)]) (n := 5) rfl D_Md_spreads_0.2.2.2.1 (by decide) rfl rfl) ?_
      refine z_s I (s_goto (tgt := 3) D_Md_spreads_0.2.2.2.2 rfl) ?_
      refine z_s I (s_lv (lv' := [(0, vR ad o), (1, vI x1), (2, vI x2), (3, vI x3), (4, vI x4), (5, vI (w32 (x5 + 1)))]) [1, 2, 3, 4, 5, 0] rfl) ?_
      exact z_end (fun g => hin1_1 _ g (inR_w32 _))
    show Z Y (m_Md_spreads_L3b o x1 x2 x3 x4 x5 h) G1 h 3 [(0, vR ad o), (1, vI x1), (2, vI x2), (3, vI x3), (4, vI x4), (5, vI x5)] []
    unfold m_Md_spreads_L3b
    refine z_s I (s_iload (pc' := 5) 5 rfl D_Md_spreads_0.1.1.2.1 rfl) ?_
    refine z_s I (s_bipush (pc' := 7) D_Md_spreads_0.1.1.2.2 rfl rfl) ?_
    refine z_icmp_ge (tgt := 33) (pc' := 10) I ax5 (inR_c (x := 33) rfl) D_Md_spreads_0.1.2.1.1 rfl rfl (fun c12 => ?_) (fun c12 => ?_)
    · refine z_map _ (fun x g => hout1 x g) ?_
      refine z_s I (s_lv (lv' := [(0, vR ad o), (1, vI x1), (2, vI x2), (3, vI x3), (4, vI x4)]) [0, 1, 2, 3, 4] rfl) ?_
      exact J33 _
    · refine z_s I (s_aload_n (pc' := 11) 0 rfl D_Md_spreads_0.1.2.1.2 rfl rfl) ?_
      refine z_getR (pc' := 14) (eI := o + 16) I g_Md_61 ao rfl (by omega) D_Md_spreads_0.1.2.2.1 rfl ?_
      have k13 : ok τ (1, 33) (o + 16) := r_Md_ways hw ao (by omega)
      refine z_s I (s_iload (pc' := 16) 5 rfl D_Md_spreads_0.1.2.2.2 rfl) ?_
      refine z_s I (s_iload (pc' := 18) 5 rfl D_Md_spreads_0.2.1.1.1 rfl) ?_
      refine z_if_ne (tgt := 25) (pc' := 21) I ax5 D_Md_spreads_0.2.1.1.2 rfl rfl (fun c14 => ?_) (fun c14 => ?_)
      · refine z_s I (s_lconst (pc' := 26) (x := 0) D_Md_spreads_0.2.2.1.1 rfl rfl) ?_
        exact J26 _ ax5 _ k13 _ ax5 _ (inL_c (x := 0) rfl) _
      · refine z_s I (s_lconst (pc' := 22) (x := 1) D_Md_spreads_0.2.1.2.1 rfl rfl) ?_
        refine z_s I (s_goto (tgt := 26) D_Md_spreads_0.2.1.2.2 rfl) ?_
        exact J26 _ ax5 _ k13 _ ax5 _ (inL_c (x := 1) rfl) _
  have main : Z Y (m_Md_spreads o x1 x2 x3 x4 h) G0 h 0 [(0, vR ad o), (1, vI x1), (2, vI x2), (3, vI x3), (4, vI x4)] [] := by
    unfold m_Md_spreads
    refine z_s I (s_iconst (pc' := 1) D_Md_spreads_0.1.1.1.1 rfl) ?_
    refine z_s I (s_istore (pc' := 3) (lv' := [(5, vI 0), (0, vR ad o), (1, vI x1), (2, vI x2), (3, vI x3), (4, vI x4)]) D_Md_spreads_0.1.1.1.2 (by decide) rfl rfl) ?_
    refine z_s I (s_lv (lv' := [(0, vR ad o), (1, vI x1), (2, vI x2), (3, vI x3), (4, vI x4), (5, vI 0)]) [1, 2, 3, 4, 5, 0] rfl) ?_
    exact L3 _ (b01.R bz0)
  exact main _ hF (by rw [hG0])
set_option maxHeartbeats 4000000 in
set_option maxRecDepth 20000 in
theorem c_Md_asMuch {l : Launch} {τ : TP} {o : Int} {x1 : Int} {x2 : Int} {x3 : Int} {x4 : Int} {h : HP} {r : Int} {h' : HP} (hw : wf τ) (ao : ok τ (4, 10) o) (ax1 : inR x1) (ax2 : inR x2) (ax3 : inR x3) (ax4 : inR x4) (hh : hr τ h) (hF : m_Md_asMuch o x1 x2 x3 x4 h = some (r, h')) : Ctr l y_Md_asMuch k_Md_asMuch 8 (Option.some FieldType.long) 5 141 τ (fun ad => [vR ad o, vI x1, vI x2, vI x3, vI x4]) h (some (vL r)) h' (inL r) := by
  refine ctr_of (by decide) hw hh (fun ad => Nat.le_of_ble_eq_true rfl) (fun ad K Y I hK => ?_)
  obtain ⟨G0, hG0⟩ : ∃ G : Int × HP → Prop, G = fun x => x = (r, h') := ⟨_, rfl⟩
  have gk0 : ∀ (x : Int) (y : HP), G0 (x, y) → inL x → K (some (vL x)) y := fun x y g q => by
    rw [hG0] at g
    cases g
    exact hK q
  have L22 : ∀ (h : HP) (s : Int × Int), (inL (s.1) ∧ inR (s.2)) → Z Y (m_Md_asMuch_L22 o h s) G0 h 22 [(0, vR ad o), (5, vL (s.1)), (7, vI (s.2))] [] := by
    intro h s hs
    refine z_loop (G := G0) (hO := fun s : Int × Int => h) (lO := fun s : Int × Int => [(0, vR ad o), (5, vL (s.1)), (7, vI (s.2))]) (Φ := fun s : Int × Int => inL (s.1) ∧ inR (s.2)) (fun G1 hin1_1 hout1 s hs => ?_) FUEL s hs
    obtain ⟨l5, x7⟩ := s
    obtain ⟨al5, ax7⟩ := hs
    have gk1 := fun (x : Int) (y : HP) (g : G1 (.inr ((x, y)))) (q : inL x) => gk0 x y (hout1 _ g) q
    show Z Y (m_Md_asMuch_L22b o h l5 x7) G1 h 22 [(0, vR ad o), (5, vL l5), (7, vI x7)] []
    unfold m_Md_asMuch_L22b
    refine z_s I (s_iload (pc' := 24) 2 rfl D_Md_asMuch_0.2.2.2.1 rfl) ?_
    refine z_s I (s_bipush (pc' := 26) D_Md_asMuch_0.2.2.2.2 rfl rfl) ?_
    refine z_icmp_ge (tgt := 47) (pc' := 29) I ax7 (inR_c (x := 33) rfl) D_Md_asMuch_1.1.1.1 rfl rfl (fun c1 => ?_) (fun c1 => ?_)
    · refine z_s I (s_lload (pc' := 49) 1 rfl D_Md_asMuch_1.2.2.2.1 rfl) ?_
      exact z_ret (w := some (vL l5)) I (fun g => gk1 _ _ g al5) ⟨_, rfl⟩ D_Md_asMuch_1.2.2.2.2 rfl
    · refine z_s I (s_lload (pc' := 31) 1 rfl D_Md_asMuch_1.1.1.2.1 rfl) ?_
      refine z_s I (s_aload_n (pc' := 32) 0 rfl D_Md_asMuch_1.1.1.2.2 rfl rfl) ?_
      refine z_getR (pc' := 35) (eI := o + 16) I g_Md_61 ao rfl (by omega) D_Md_asMuch_1.1.2.1 rfl ?_
      have k2 : ok τ (1, 33) (o + 16) := r_Md_ways hw ao (by omega)
      refine z_s I (s_iload (pc' := 37) 2 rfl D_Md_asMuch_1.1.2.2.1 rfl) ?_
      refine z_lald (pc' := 38) (nI := 33) I k2 ax7 rfl D_Md_asMuch_1.1.2.2.2 rfl (fun c3 f4 => ?_)
      refine z_s I (s_ladd (pc' := 39) D_Md_asMuch_1.2.1.1 rfl) ?_
      refine z_bL (inL_w64 _) (fun v5 e6 f7 => ?_)
      refine z_s I (s_lstore (pc' := 41) (lv' := [(5, vL v5), (0, vR ad o), (7, vI x7)]) D_Md_asMuch_1.2.1.2.1 (by decide) rfl rfl) ?_
      refine z_s I (s_iinc (pc' := 44) (lv' := [(7, vI (w32 (x7 + 1))), (5, vL v5), (0, vR ad o)]) (n := 2) rfl D_Md_asMuch_1.2.1.2.2 (by decide) rfl rfl) ?_
      refine z_s I (s_goto (tgt := 22) D_Md_asMuch_1.2.2.1 rfl) ?_
      refine z_s I (s_lv (lv' := [(0, vR ad o), (5, vL v5), (7, vI (w32 (x7 + 1)))]) [2, 1, 0] rfl) ?_
      exact z_end (fun g => hin1_1 _ g ⟨f7, (inR_w32 _)⟩)
  have main : Z Y (m_Md_asMuch o x1 x2 x3 x4 h) G0 h 0 [(0, vR ad o), (1, vI x1), (2, vI x2), (3, vI x3), (4, vI x4)] [] := by
    unfold m_Md_asMuch
    refine z_s I (s_aload_n (pc' := 1) 0 rfl D_Md_asMuch_0.1.1.1.1 rfl rfl) ?_
    refine z_s I (s_iload_n (pc' := 2) 1 rfl D_Md_asMuch_0.1.1.1.2 rfl rfl) ?_
    refine z_s I (s_iload_n (pc' := 3) 2 rfl D_Md_asMuch_0.1.1.2.1 rfl rfl) ?_
    refine z_s I (s_iload_n (pc' := 4) 3 rfl D_Md_asMuch_0.1.1.2.2 rfl rfl) ?_
    refine z_s I (s_iload (pc' := 6) 4 rfl D_Md_asMuch_0.1.2.1.1 rfl) ?_
    refine z_b1 (fun h10 q9 => ?_)
    refine z_callV (pc' := 9) I mv_Md_spreads ml_Md_256 (fun ad => [vI x1, vI x2, vI x3, vI x4]) ⟨Nat.le_of_ble_eq_true rfl, Nat.le_of_ble_eq_true rfl⟩ ao (fun hh => c_Md_spreads hw ao ax1 ax2 ax3 ax4 hh q9) rfl rfl (Nat.le_of_ble_eq_true rfl) D_Md_asMuch_0.1.2.1.2 rfl (fun f8 => ?_)
    refine z_s I (s_lconst (pc' := 10) (x := 0) D_Md_asMuch_0.1.2.2.1 rfl rfl) ?_
    refine z_s I (s_lstore (pc' := 12) (lv' := [(5, vL 0), (0, vR ad o), (1, vI x1), (2, vI x2), (3, vI x3), (4, vI x4)]) D_Md_asMuch_0.1.2.2.2 (by decide) rfl rfl) ?_
    refine z_s I (s_aload_n (pc' := 13) 1 rfl D_Md_asMuch_0.2.1.1.1 rfl rfl) ?_
    refine z_s I (s_iload_n (pc' := 14) 2 rfl D_Md_asMuch_0.2.1.1.2 rfl rfl) ?_
    refine z_s I (s_iload_n (pc' := 15) 3 rfl D_Md_asMuch_0.2.1.2.1 rfl rfl) ?_
    refine z_s I (s_iload (pc' := 17) 5 rfl D_Md_asMuch_0.2.1.2.2 rfl) ?_
    refine z_b1 (fun r13 q12 => ?_)
    refine z_callV (pc' := 20) I mv_Md_likeness ml_Md_240 (fun ad => [vI x1, vI x2, vI x4]) ⟨Nat.le_of_ble_eq_true rfl, Nat.le_of_ble_eq_true rfl⟩ ao (fun hh => c_Md_likeness hw ao ax1 ax2 ax4 hh q12) rfl rfl (Nat.le_of_ble_eq_true rfl) D_Md_asMuch_0.2.2.1.1 rfl (fun f11 => ?_)
    refine z_s I (s_istore (pc' := 22) (lv' := [(7, vI r13), (5, vL 0), (0, vR ad o), (1, vI x1), (2, vI x2), (3, vI x3), (4, vI x4)]) D_Md_asMuch_0.2.2.1.2 (by decide) rfl rfl) ?_
    refine z_s I (s_lv (lv' := [(0, vR ad o), (5, vL 0), (7, vI r13)]) [2, 1, 0] rfl) ?_
    exact L22 _ _ ⟨(inL_c (x := 0) rfl), f11⟩
  exact main _ hF (by rw [hG0])
set_option maxHeartbeats 4000000 in
set_option maxRecDepth 20000 in
theorem c_Md_lowest {l : Launch} {τ : TP} {l0 : Int} {l2 : Int} {x4 : Int} {h : HP} {r : Int} (hw : wf τ) (al0 : inL l0) (al2 : inL l2) (ax4 : inR x4) (hh : hr τ h) (hF : m_Md_lowest l0 l2 x4 h = some r) : Ctr l y_Md_lowest k_Md_lowest 11 (Option.some FieldType.long) 0 0 τ (fun ad => [vL l0, vL l2, vI x4]) h (some (vL r)) h (inL r) := by
  refine ctr_of (by decide) hw hh (fun ad => Nat.le_of_ble_eq_true rfl) (fun ad K Y I hK => ?_)
  obtain ⟨G0, hG0⟩ : ∃ G : Int → Prop, G = fun x => x = r := ⟨_, rfl⟩
  have gk0 : ∀ (x : Int), G0 x → inL x → K (some (vL x)) h := fun x g q => by
    rw [hG0] at g
    cases g
    exact hK q
  have J31 : ∀ (l5 : Int) (al5 : inL l5), Z Y (m_Md_lowest_J31 l0 l2 x4 l5 h) G0 h 31 [(0, vL l0), (2, vL l2), (4, vI x4), (5, vL l5)] [] := by
    intro l5 al5
    unfold m_Md_lowest_J31
    refine z_s I (s_iload (pc' := 33) 2 rfl D_Md_lowest_1.1.1.2 rfl) ?_
    refine z_if_ne (tgt := 40) (pc' := 36) I ax4 D_Md_lowest_1.1.2.1 rfl rfl (fun c1 => ?_) (fun c1 => ?_)
    · refine z_s I (s_lload_n (pc' := 41) 1 rfl D_Md_lowest_1.2.1.2 rfl rfl) ?_
      refine z_s I (s_lload (pc' := 43) 3 rfl D_Md_lowest_1.2.2.1 rfl) ?_
      refine z_ldiv (pc' := 44) I al5 D_Md_lowest_1.2.2.2.1 rfl (fun c2 => ?_)
      exact z_ret (w := some (vL (lDiv l2 l5))) I (fun g => gk0 _ g (r_lDiv _ _)) ⟨_, rfl⟩ D_Md_lowest_1.2.2.2.2 rfl
    · refine z_s I (s_lload_n (pc' := 37) 0 rfl D_Md_lowest_1.1.2.2 rfl rfl) ?_
      refine z_s I (s_goto (tgt := 41) D_Md_lowest_1.2.1.1 rfl) ?_
      refine z_s I (s_lload (pc' := 43) 3 rfl D_Md_lowest_1.2.2.1 rfl) ?_
      refine z_ldiv (pc' := 44) I al5 D_Md_lowest_1.2.2.2.1 rfl (fun c3 => ?_)
      exact z_ret (w := some (vL (lDiv l0 l5))) I (fun g => gk0 _ g (r_lDiv _ _)) ⟨_, rfl⟩ D_Md_lowest_1.2.2.2.2 rfl
  have L6 : ∀ (s : Int × Int), (inL (s.1) ∧ inL (s.2)) → Z Y (m_Md_lowest_L6 l0 l2 x4 h s) G0 h 6 [(0, vL l0), (2, vL l2), (4, vI x4), (5, vL (s.1)), (7, vL (s.2))] [] := by
    intro s hs
    refine z_loop (G := G0) (hO := fun s : Int × Int => h) (lO := fun s : Int × Int => [(0, vL l0), (2, vL l2), (4, vI x4), (5, vL (s.1)), (7, vL (s.2))]) (Φ := fun s : Int × Int => inL (s.1) ∧ inL (s.2)) (fun G1 hin1_1 hout1 s hs => ?_) FUEL s hs
    obtain ⟨l5, l7⟩ := s
    obtain ⟨al5, al7⟩ := hs
    have gk1 := fun (x : Int) (g : G1 (.inr (x))) (q : inL x) => gk0 x (hout1 _ g) q
    show Z Y (m_Md_lowest_L6b l0 l2 x4 h l5 l7) G1 h 6 [(0, vL l0), (2, vL l2), (4, vI x4), (5, vL l5), (7, vL l7)] []
    unfold m_Md_lowest_L6b
    refine z_s I (s_lload (pc' := 8) 4 rfl D_Md_lowest_0.1.2.1.1 rfl) ?_
    refine z_s I (s_lconst (pc' := 9) (x := 0) D_Md_lowest_0.1.2.1.2 rfl rfl) ?_
    refine z_s I (s_lcmp (pc' := 10) al7 (inL_c (x := 0) rfl) D_Md_lowest_0.1.2.2.1 rfl) ?_
    refine z_if_eq (tgt := 31) (pc' := 13) I (inR_lCmp _ _) D_Md_lowest_0.1.2.2.2 rfl rfl (fun c4 => ?_) (fun c4 => ?_)
    · refine z_map _ (fun x g => hout1 x g) ?_
      refine z_s I (s_lv (lv' := [(0, vL l0), (2, vL l2), (4, vI x4), (5, vL l5)]) [0, 1, 2, 3] rfl) ?_
      exact J31 _ al5
    · refine z_s I (s_lload (pc' := 15) 3 rfl D_Md_lowest_0.2.1.1.1 rfl) ?_
      refine z_s I (s_lload (pc' := 17) 4 rfl D_Md_lowest_0.2.1.1.2 rfl) ?_
      refine z_lrem (pc' := 18) I al7 D_Md_lowest_0.2.1.2.1 rfl (fun c5 => ?_)
      refine z_bL (r_lRem _ _) (fun v6 e7 f8 => ?_)
      refine z_s I (s_lstore (pc' := 20) (lv' := [(9, vL v6), (0, vL l0), (2, vL l2), (4, vI x4), (5, vL l5), (7, vL l7)]) D_Md_lowest_0.2.1.2.2 (by decide) rfl rfl) ?_
      refine z_s I (s_lload (pc' := 22) 5 rfl D_Md_lowest_0.2.2.1.1 rfl) ?_
      refine z_s I (s_lstore (pc' := 24) (lv' := [(5, vL l7), (9, vL v6), (0, vL l0), (2, vL l2), (4, vI x4), (7, vL l7)]) D_Md_lowest_0.2.2.1.2 (by decide) rfl rfl) ?_
      refine z_s I (s_lload (pc' := 26) 1 rfl D_Md_lowest_0.2.2.2.1 rfl) ?_
      refine z_s I (s_lstore (pc' := 28) (lv' := [(7, vL v6), (5, vL l7), (9, vL v6), (0, vL l0), (2, vL l2), (4, vI x4)]) D_Md_lowest_0.2.2.2.2 (by decide) rfl rfl) ?_
      refine z_s I (s_goto (tgt := 6) D_Md_lowest_1.1.1.1 rfl) ?_
      refine z_s I (s_lv (lv' := [(0, vL l0), (2, vL l2), (4, vI x4), (5, vL l7), (7, vL v6)]) [3, 4, 5, 1, 0] rfl) ?_
      exact z_end (fun g => hin1_1 _ g ⟨al7, f8⟩)
  have main : Z Y (m_Md_lowest l0 l2 x4 h) G0 h 0 [(0, vL l0), (2, vL l2), (4, vI x4)] [] := by
    unfold m_Md_lowest
    refine z_s I (s_lload_n (pc' := 1) 0 rfl D_Md_lowest_0.1.1.1.1 rfl rfl) ?_
    refine z_s I (s_lstore (pc' := 3) (lv' := [(5, vL l0), (0, vL l0), (2, vL l2), (4, vI x4)]) D_Md_lowest_0.1.1.1.2 (by decide) rfl rfl) ?_
    refine z_s I (s_lload_n (pc' := 4) 2 rfl D_Md_lowest_0.1.1.2.1 rfl rfl) ?_
    refine z_s I (s_lstore (pc' := 6) (lv' := [(7, vL l2), (5, vL l0), (0, vL l0), (2, vL l2), (4, vI x4)]) D_Md_lowest_0.1.1.2.2 (by decide) rfl rfl) ?_
    refine z_s I (s_lv (lv' := [(0, vL l0), (2, vL l2), (4, vI x4), (5, vL l0), (7, vL l2)]) [2, 3, 4, 1, 0] rfl) ?_
    exact L6 _ ⟨al0, al2⟩
  exact main _ hF (by rw [hG0])
set_option maxHeartbeats 4000000 in
set_option maxRecDepth 20000 in
theorem c_Md_odds {l : Launch} {τ : TP} {o : Int} {x1 : Int} {x2 : Int} {x3 : Int} {x4 : Int} {h : HP} {r : Int} {h' : HP} (hw : wf τ) (ao : ok τ (4, 10) o) (ax1 : inR x1) (ax2 : inR x2) (ax3 : inR x3) (ax4 : inR x4) (hh : hr τ h) (hF : m_Md_odds o x1 x2 x3 x4 h = some (r, h')) : Ctr l y_Md_odds k_Md_odds 7 (Option.some FieldType.long) 6 168 τ (fun ad => [vR ad o, vI x1, vI x2, vI x3, vI x4]) h (some (vL r)) h' (inL r) := by
  refine ctr_of (by decide) hw hh (fun ad => Nat.le_of_ble_eq_true rfl) (fun ad K Y I hK => ?_)
  obtain ⟨G0, hG0⟩ : ∃ G : Int × HP → Prop, G = fun x => x = (r, h') := ⟨_, rfl⟩
  have gk0 : ∀ (x : Int) (y : HP), G0 (x, y) → inL x → K (some (vL x)) y := fun x y g q => by
    rw [hG0] at g
    cases g
    exact hK q
  have main : Z Y (m_Md_odds o x1 x2 x3 x4 h) G0 h 0 [(0, vR ad o), (1, vI x1), (2, vI x2), (3, vI x3), (4, vI x4)] [] := by
    unfold m_Md_odds
    refine z_s I (s_aload_n (pc' := 1) 0 rfl D_Md_odds_0.1.1.1.1 rfl rfl) ?_
    refine z_s I (s_iload_n (pc' := 2) 1 rfl D_Md_odds_0.1.1.1.2 rfl rfl) ?_
    refine z_s I (s_iload_n (pc' := 3) 2 rfl D_Md_odds_0.1.1.2.1 rfl rfl) ?_
    refine z_b1 (fun r3 q2 => ?_)
    refine z_callV (pc' := 6) I mv_Md_isTwo ml_Md_230 (fun ad => [vI x1, vI x2]) ⟨Nat.le_of_ble_eq_true rfl, Nat.le_of_ble_eq_true rfl⟩ ao (fun hh => c_Md_isTwo hw ao ax1 ax2 hh q2) rfl rfl (Nat.le_of_ble_eq_true rfl) D_Md_odds_0.1.1.2.2 rfl (fun f1 => ?_)
    refine z_if_eq (tgt := 32) (pc' := 9) I (b01.R f1) D_Md_odds_0.1.2.1.1 rfl rfl (fun c4 => ?_) (fun c4 => ?_)
    · refine z_ldc2 (pc' := 35) (x := (-9223372036854775808)) I cl_Md_259 (by decide +kernel) D_Md_odds_1.1.1.1.2 rfl ?_
      exact z_ret (w := some (vL (-9223372036854775808))) I (fun g => gk0 _ _ g (inL_c (x := (-9223372036854775808)) rfl)) ⟨_, rfl⟩ D_Md_odds_1.1.1.2.1 rfl
    · refine z_s I (s_iload_n (pc' := 10) 3 rfl D_Md_odds_0.1.2.1.2 rfl rfl) ?_
      refine z_s I (s_i2l (pc' := 11) ax3 D_Md_odds_0.1.2.2.1 rfl) ?_
      refine z_s I (s_lconst (pc' := 12) (x := 0) D_Md_odds_0.1.2.2.2 rfl rfl) ?_
      refine z_ldc2 (pc' := 15) (x := 3) I cl_Md_163 (by decide +kernel) D_Md_odds_0.2.1.1.1 rfl ?_
      refine z_b1 (fun r7 q6 => ?_)
      refine z_callS (pc' := 18) I mv_Md_in ml_Md_119 (fun ad => [vL x3, vL 0, vL 3]) ⟨Nat.le_of_ble_eq_true rfl, Nat.le_of_ble_eq_true rfl⟩ (fun hh => c_Md_in hw (ax3).L (inL_c (x := 0) rfl) (inL_c (x := 3) rfl) hh q6) rfl rfl (Nat.le_of_ble_eq_true rfl) D_Md_odds_0.2.1.1.2 rfl (fun f5 => ?_)
      refine z_if_eq (tgt := 32) (pc' := 21) I (b01.R f5) D_Md_odds_0.2.1.2.1 rfl rfl (fun c8 => ?_) (fun c8 => ?_)
      · refine z_ldc2 (pc' := 35) (x := (-9223372036854775808)) I cl_Md_259 (by decide +kernel) D_Md_odds_1.1.1.1.2 rfl ?_
        exact z_ret (w := some (vL (-9223372036854775808))) I (fun g => gk0 _ _ g (inL_c (x := (-9223372036854775808)) rfl)) ⟨_, rfl⟩ D_Md_odds_1.1.1.2.1 rfl
      · refine z_s I (s_iload (pc' := 23) 4 rfl D_Md_odds_0.2.1.2.2 rfl) ?_
        refine z_s I (s_i2l (pc' := 24) ax4 D_Md_odds_0.2.2.1.1 rfl) ?_
        refine z_s I (s_lconst (pc' := 25) (x := 0) D_Md_odds_0.2.2.1.2 rfl rfl) ?_
        refine z_s I (s_lconst (pc' := 26) (x := 1) D_Md_odds_0.2.2.2.1 rfl rfl) ?_
        refine z_b1 (fun r11 q10 => ?_)
        refine z_callS (pc' := 29) I mv_Md_in ml_Md_119 (fun ad => [vL x4, vL 0, vL 1]) ⟨Nat.le_of_ble_eq_true rfl, Nat.le_of_ble_eq_true rfl⟩ (fun hh => c_Md_in hw (ax4).L (inL_c (x := 0) rfl) (inL_c (x := 1) rfl) hh q10) rfl rfl (Nat.le_of_ble_eq_true rfl) D_Md_odds_0.2.2.2.2 rfl (fun f9 => ?_)
        refine z_if_ne (tgt := 36) (pc' := 32) I (b01.R f9) D_Md_odds_1.1.1.1.1 rfl rfl (fun c12 => ?_) (fun c12 => ?_)
        · refine z_s I (s_aload_n (pc' := 37) 0 rfl D_Md_odds_1.1.1.2.2 rfl rfl) ?_
          refine z_s I (s_iload_n (pc' := 38) 1 rfl D_Md_odds_1.1.2.1.1 rfl rfl) ?_
          refine z_s I (s_iload_n (pc' := 39) 2 rfl D_Md_odds_1.1.2.1.2 rfl rfl) ?_
          refine z_s I (s_iload_n (pc' := 40) 3 rfl D_Md_odds_1.1.2.2.1 rfl rfl) ?_
          refine z_s I (s_iconst (pc' := 41) D_Md_odds_1.1.2.2.2 rfl) ?_
          refine z_b2 (fun r15 h16 q14 => ?_)
          refine z_callV (pc' := 44) I mv_Md_asMuch ml_Md_261 (fun ad => [vI x1, vI x2, vI x3, vI (-1)]) ⟨Nat.le_of_ble_eq_true rfl, Nat.le_of_ble_eq_true rfl⟩ ao (fun hh => c_Md_asMuch hw ao ax1 ax2 ax3 (inR_c (x := (-1)) rfl) hh q14) rfl rfl (Nat.le_of_ble_eq_true rfl) D_Md_odds_1.2.1.1.1 rfl (fun f13 => ?_)
          refine z_s I (s_lstore (pc' := 46) (lv' := [(5, vL r15), (0, vR ad o), (1, vI x1), (2, vI x2), (3, vI x3), (4, vI x4)]) D_Md_odds_1.2.1.1.2 (by decide) rfl rfl) ?_
          refine z_s I (s_lload (pc' := 48) 0 rfl D_Md_odds_1.2.1.2.1 rfl) ?_
          refine z_s I (s_aload_n (pc' := 49) 1 rfl D_Md_odds_1.2.1.2.2 rfl rfl) ?_
          refine z_getL (pc' := 52) (jI := 28) I g_Md_248 ao rfl rfl D_Md_odds_1.2.2.1.1 rfl (fun f17 => ?_)
          refine z_s I (s_iload (pc' := 54) 5 rfl D_Md_odds_1.2.2.1.2 rfl) ?_
          refine z_b1 (fun r20 q19 => ?_)
          refine z_callS (pc' := 57) I mv_Md_lowest ml_Md_265 (fun ad => [vL r15, vL (h16 o 28), vI x4]) ⟨Nat.le_of_ble_eq_true rfl, Nat.le_of_ble_eq_true rfl⟩ (fun hh => c_Md_lowest hw f13 f17 ax4 hh q19) rfl rfl (Nat.le_of_ble_eq_true rfl) D_Md_odds_1.2.2.2.1 rfl (fun f18 => ?_)
          exact z_ret (w := some (vL r20)) I (fun g => gk0 _ _ g f18) ⟨_, rfl⟩ D_Md_odds_1.2.2.2.2 rfl
        · refine z_ldc2 (pc' := 35) (x := (-9223372036854775808)) I cl_Md_259 (by decide +kernel) D_Md_odds_1.1.1.1.2 rfl ?_
          exact z_ret (w := some (vL (-9223372036854775808))) I (fun g => gk0 _ _ g (inL_c (x := (-9223372036854775808)) rfl)) ⟨_, rfl⟩ D_Md_odds_1.1.1.2.1 rfl
  exact main _ hF (by rw [hG0])
set_option maxHeartbeats 4000000 in
set_option maxRecDepth 20000 in
theorem c_Md_just {l : Launch} {τ : TP} {o : Int} {x1 : Int} {x2 : Int} {x3 : Int} {x4 : Int} {x5 : Int} {h : HP} {r : Int} {h' : HP} (hw : wf τ) (ao : ok τ (4, 10) o) (ax1 : inR x1) (ax2 : inR x2) (ax3 : inR x3) (ax4 : inR x4) (ax5 : inR x5) (hh : hr τ h) (hF : m_Md_just o x1 x2 x3 x4 x5 h = some (r, h')) : Ctr l y_Md_just k_Md_just 6 (Option.some FieldType.long) 5 141 τ (fun ad => [vR ad o, vI x1, vI x2, vI x3, vI x4, vI x5]) h (some (vL r)) h' (inL r) := by
  refine ctr_of (by decide) hw hh (fun ad => Nat.le_of_ble_eq_true rfl) (fun ad K Y I hK => ?_)
  obtain ⟨G0, hG0⟩ : ∃ G : Int × HP → Prop, G = fun x => x = (r, h') := ⟨_, rfl⟩
  have gk0 : ∀ (x : Int) (y : HP), G0 (x, y) → inL x → K (some (vL x)) y := fun x y g q => by
    rw [hG0] at g
    cases g
    exact hK q
  have main : Z Y (m_Md_just o x1 x2 x3 x4 x5 h) G0 h 0 [(0, vR ad o), (1, vI x1), (2, vI x2), (3, vI x3), (4, vI x4), (5, vI x5)] [] := by
    unfold m_Md_just
    refine z_s I (s_aload_n (pc' := 1) 0 rfl D_Md_just_0.1.1.1.1 rfl rfl) ?_
    refine z_s I (s_iload_n (pc' := 2) 1 rfl D_Md_just_0.1.1.1.2 rfl rfl) ?_
    refine z_s I (s_iload_n (pc' := 3) 2 rfl D_Md_just_0.1.1.2.1 rfl rfl) ?_
    refine z_b1 (fun r3 q2 => ?_)
    refine z_callV (pc' := 6) I mv_Md_isTwo ml_Md_230 (fun ad => [vI x1, vI x2]) ⟨Nat.le_of_ble_eq_true rfl, Nat.le_of_ble_eq_true rfl⟩ ao (fun hh => c_Md_isTwo hw ao ax1 ax2 hh q2) rfl rfl (Nat.le_of_ble_eq_true rfl) D_Md_just_0.1.1.2.2 rfl (fun f1 => ?_)
    refine z_if_eq (tgt := 45) (pc' := 9) I (b01.R f1) D_Md_just_0.1.2.1.1 rfl rfl (fun c4 => ?_) (fun c4 => ?_)
    · refine z_ldc2 (pc' := 48) (x := (-9223372036854775808)) I cl_Md_259 (by decide +kernel) D_Md_just_1.1.2.2.2 rfl ?_
      exact z_ret (w := some (vL (-9223372036854775808))) I (fun g => gk0 _ _ g (inL_c (x := (-9223372036854775808)) rfl)) ⟨_, rfl⟩ D_Md_just_1.2.1.1.1 rfl
    · refine z_s I (s_iload_n (pc' := 10) 3 rfl D_Md_just_0.1.2.1.2 rfl rfl) ?_
      refine z_s I (s_i2l (pc' := 11) ax3 D_Md_just_0.1.2.2.1 rfl) ?_
      refine z_s I (s_lconst (pc' := 12) (x := 0) D_Md_just_0.1.2.2.2 rfl rfl) ?_
      refine z_ldc2 (pc' := 15) (x := 3) I cl_Md_163 (by decide +kernel) D_Md_just_0.2.1.1.1 rfl ?_
      refine z_b1 (fun r7 q6 => ?_)
      refine z_callS (pc' := 18) I mv_Md_in ml_Md_119 (fun ad => [vL x3, vL 0, vL 3]) ⟨Nat.le_of_ble_eq_true rfl, Nat.le_of_ble_eq_true rfl⟩ (fun hh => c_Md_in hw (ax3).L (inL_c (x := 0) rfl) (inL_c (x := 3) rfl) hh q6) rfl rfl (Nat.le_of_ble_eq_true rfl) D_Md_just_0.2.1.1.2 rfl (fun f5 => ?_)
      refine z_if_eq (tgt := 45) (pc' := 21) I (b01.R f5) D_Md_just_0.2.1.2.1 rfl rfl (fun c8 => ?_) (fun c8 => ?_)
      · refine z_ldc2 (pc' := 48) (x := (-9223372036854775808)) I cl_Md_259 (by decide +kernel) D_Md_just_1.1.2.2.2 rfl ?_
        exact z_ret (w := some (vL (-9223372036854775808))) I (fun g => gk0 _ _ g (inL_c (x := (-9223372036854775808)) rfl)) ⟨_, rfl⟩ D_Md_just_1.2.1.1.1 rfl
      · refine z_s I (s_iload (pc' := 23) 4 rfl D_Md_just_0.2.1.2.2 rfl) ?_
        refine z_s I (s_i2l (pc' := 24) ax4 D_Md_just_0.2.2.1.1 rfl) ?_
        refine z_s I (s_lconst (pc' := 25) (x := 0) D_Md_just_0.2.2.1.2 rfl rfl) ?_
        refine z_ldc2 (pc' := 28) (x := 32) I cl_Md_269 (by decide +kernel) D_Md_just_0.2.2.2.1 rfl ?_
        refine z_b1 (fun r11 q10 => ?_)
        refine z_callS (pc' := 31) I mv_Md_in ml_Md_119 (fun ad => [vL x4, vL 0, vL 32]) ⟨Nat.le_of_ble_eq_true rfl, Nat.le_of_ble_eq_true rfl⟩ (fun hh => c_Md_in hw (ax4).L (inL_c (x := 0) rfl) (inL_c (x := 32) rfl) hh q10) rfl rfl (Nat.le_of_ble_eq_true rfl) D_Md_just_0.2.2.2.2 rfl (fun f9 => ?_)
        refine z_if_eq (tgt := 45) (pc' := 34) I (b01.R f9) D_Md_just_1.1.1.1.1 rfl rfl (fun c12 => ?_) (fun c12 => ?_)
        · refine z_ldc2 (pc' := 48) (x := (-9223372036854775808)) I cl_Md_259 (by decide +kernel) D_Md_just_1.1.2.2.2 rfl ?_
          exact z_ret (w := some (vL (-9223372036854775808))) I (fun g => gk0 _ _ g (inL_c (x := (-9223372036854775808)) rfl)) ⟨_, rfl⟩ D_Md_just_1.2.1.1.1 rfl
        · refine z_s I (s_iload (pc' := 36) 5 rfl D_Md_just_1.1.1.1.2 rfl) ?_
          refine z_s I (s_i2l (pc' := 37) ax5 D_Md_just_1.1.1.2.1 rfl) ?_
          refine z_s I (s_lconst (pc' := 38) (x := 0) D_Md_just_1.1.1.2.2 rfl rfl) ?_
          refine z_s I (s_lconst (pc' := 39) (x := 1) D_Md_just_1.1.2.1.1 rfl rfl) ?_
          refine z_b1 (fun r15 q14 => ?_)
          refine z_callS (pc' := 42) I mv_Md_in ml_Md_119 (fun ad => [vL x5, vL 0, vL 1]) ⟨Nat.le_of_ble_eq_true rfl, Nat.le_of_ble_eq_true rfl⟩ (fun hh => c_Md_in hw (ax5).L (inL_c (x := 0) rfl) (inL_c (x := 1) rfl) hh q14) rfl rfl (Nat.le_of_ble_eq_true rfl) D_Md_just_1.1.2.1.2 rfl (fun f13 => ?_)
          refine z_if_ne (tgt := 49) (pc' := 45) I (b01.R f13) D_Md_just_1.1.2.2.1 rfl rfl (fun c16 => ?_) (fun c16 => ?_)
          · refine z_s I (s_aload_n (pc' := 50) 0 rfl D_Md_just_1.2.1.1.2 rfl rfl) ?_
            refine z_s I (s_iload_n (pc' := 51) 1 rfl D_Md_just_1.2.1.2.1 rfl rfl) ?_
            refine z_s I (s_iload_n (pc' := 52) 2 rfl D_Md_just_1.2.1.2.2 rfl rfl) ?_
            refine z_s I (s_iload_n (pc' := 53) 3 rfl D_Md_just_1.2.2.1.1 rfl rfl) ?_
            refine z_s I (s_iconst (pc' := 54) D_Md_just_1.2.2.1.2 rfl) ?_
            refine z_b1 (fun h19 q18 => ?_)
            refine z_callV (pc' := 57) I mv_Md_spreads ml_Md_256 (fun ad => [vI x1, vI x2, vI x3, vI (-1)]) ⟨Nat.le_of_ble_eq_true rfl, Nat.le_of_ble_eq_true rfl⟩ ao (fun hh => c_Md_spreads hw ao ax1 ax2 ax3 (inR_c (x := (-1)) rfl) hh q18) rfl rfl (Nat.le_of_ble_eq_true rfl) D_Md_just_1.2.2.2.1 rfl (fun f17 => ?_)
            refine z_s I (s_aload_n (pc' := 58) 0 rfl D_Md_just_1.2.2.2.2 rfl rfl) ?_
            refine z_getR (pc' := 61) (eI := o + 16) I g_Md_61 ao rfl (by omega) D_Md_just_2.1.1.1 rfl ?_
            have k20 : ok τ (1, 33) (o + 16) := r_Md_ways hw ao (by omega)
            refine z_s I (s_iload (pc' := 63) 4 rfl D_Md_just_2.1.1.2 rfl) ?_
            refine z_lald (pc' := 64) (nI := 33) I k20 ax4 rfl D_Md_just_2.1.2.1 rfl (fun c21 f22 => ?_)
            refine z_s I (s_aload_n (pc' := 65) 0 rfl D_Md_just_2.1.2.2 rfl rfl) ?_
            refine z_getL (pc' := 68) (jI := 28) I g_Md_248 ao rfl rfl D_Md_just_2.2.1.1 rfl (fun f23 => ?_)
            refine z_s I (s_iload (pc' := 70) 5 rfl D_Md_just_2.2.1.2 rfl) ?_
            refine z_b1 (fun r26 q25 => ?_)
            refine z_callS (pc' := 73) I mv_Md_lowest ml_Md_265 (fun ad => [vL (h19 (o + 16) x4), vL (h19 o 28), vI x5]) ⟨Nat.le_of_ble_eq_true rfl, Nat.le_of_ble_eq_true rfl⟩ (fun hh => c_Md_lowest hw f22 f23 ax5 hh q25) rfl rfl (Nat.le_of_ble_eq_true rfl) D_Md_just_2.2.2.1 rfl (fun f24 => ?_)
            exact z_ret (w := some (vL r26)) I (fun g => gk0 _ _ g f24) ⟨_, rfl⟩ D_Md_just_2.2.2.2 rfl
          · refine z_ldc2 (pc' := 48) (x := (-9223372036854775808)) I cl_Md_259 (by decide +kernel) D_Md_just_1.1.2.2.2 rfl ?_
            exact z_ret (w := some (vL (-9223372036854775808))) I (fun g => gk0 _ _ g (inL_c (x := (-9223372036854775808)) rfl)) ⟨_, rfl⟩ D_Md_just_1.2.1.1.1 rfl
  exact main _ hF (by rw [hG0])
set_option maxHeartbeats 4000000 in
set_option maxRecDepth 20000 in
theorem c_Md_compares {l : Launch} {τ : TP} {l0 : Int} {l2 : Int} {l4 : Int} {l6 : Int} {h : HP} {r : Int} (hw : wf τ) (al0 : inL l0) (al2 : inL l2) (al4 : inL l4) (al6 : inL l6) (hh : hr τ h) (hF : m_Md_compares l0 l2 l4 l6 h = some r) : Ctr l y_Md_compares k_Md_compares 25 (Option.some FieldType.int) 0 0 τ (fun ad => [vL l0, vL l2, vL l4, vL l6]) h (some (vI r)) h (inR r) := by
  refine ctr_of (by decide) hw hh (fun ad => Nat.le_of_ble_eq_true rfl) (fun ad K Y I hK => ?_)
  obtain ⟨G0, hG0⟩ : ∃ G : Int → Prop, G = fun x => x = r := ⟨_, rfl⟩
  have gk0 : ∀ (x : Int), G0 x → inR x → K (some (vI x)) h := fun x g q => by
    rw [hG0] at g
    cases g
    exact hK q
  have J53 : ∀ (x8 : Int) (ax8 : inR x8) (l17 : Int) (al17 : inL l17) (l19 : Int) (al19 : inL l19), Z Y (m_Md_compares_J53 x8 l17 l19 h) G0 h 53 [(8, vI x8), (17, vL l17), (19, vL l19)] [] := by
    intro x8 ax8 l17 al17 l19 al19
    unfold m_Md_compares_J53
    refine z_s I (s_lload (pc' := 55) 1 rfl D_Md_compares_1.2.2.2.1 rfl) ?_
    refine z_s I (s_lload (pc' := 57) 2 rfl D_Md_compares_1.2.2.2.2 rfl) ?_
    refine z_s I (s_lcmp (pc' := 58) al17 al19 D_Md_compares_2.1.1.1.1 rfl) ?_
    refine z_if_ge (tgt := 67) (pc' := 61) I (inR_lCmp _ _) D_Md_compares_2.1.1.1.2 rfl rfl (fun c1 => ?_) (fun c1 => ?_)
    · refine z_s I (s_iload (pc' := 69) 0 rfl D_Md_compares_2.1.2.1.2 rfl) ?_
      exact z_ret (w := some (vI x8)) I (fun g => gk0 _ g ax8) ⟨_, rfl⟩ D_Md_compares_2.1.2.2.1 rfl
    · refine z_s I (s_iload (pc' := 63) 0 rfl D_Md_compares_2.1.1.2.1 rfl) ?_
      refine z_s I (s_ineg (pc' := 64) D_Md_compares_2.1.1.2.2 rfl) ?_
      refine z_s I (s_goto (tgt := 69) D_Md_compares_2.1.2.1.1 rfl) ?_
      exact z_ret (w := some (vI (w32 (-x8)))) I (fun g => gk0 _ g (inR_w32 _)) ⟨_, rfl⟩ D_Md_compares_2.1.2.2.1 rfl
  have J84 : ∀ (x8 : Int) (ax8 : inR x8) (l21 : Int) (al21 : inL l21) (l23 : Int) (al23 : inL l23), Z Y (m_Md_compares_J84 x8 l21 l23 h) G0 h 84 [(8, vI x8), (21, vL l21), (23, vL l23)] [] := by
    intro x8 ax8 l21 al21 l23 al23
    unfold m_Md_compares_J84
    refine z_s I (s_lload (pc' := 86) 1 rfl D_Md_compares_2.2.2.2.2 rfl) ?_
    refine z_s I (s_lload (pc' := 88) 2 rfl D_Md_compares_3.1.1.1.1 rfl) ?_
    refine z_s I (s_lcmp (pc' := 89) al21 al23 D_Md_compares_3.1.1.1.2 rfl) ?_
    refine z_if_ne (tgt := 96) (pc' := 92) I (inR_lCmp _ _) D_Md_compares_3.1.1.2.1 rfl rfl (fun c2 => ?_) (fun c2 => ?_)
    · refine z_s I (s_lload (pc' := 98) 1 rfl D_Md_compares_3.1.2.1.2 rfl) ?_
      refine z_s I (s_lconst (pc' := 99) (x := 0) D_Md_compares_3.1.2.2.1 rfl rfl) ?_
      refine z_s I (s_lcmp (pc' := 100) al21 (inL_c (x := 0) rfl) D_Md_compares_3.1.2.2.2 rfl) ?_
      refine z_if_ne (tgt := 109) (pc' := 103) I (inR_lCmp _ _) D_Md_compares_3.2.1.1.1 rfl rfl (fun c3 => ?_) (fun c3 => ?_)
      · refine z_s I (s_iload (pc' := 111) 0 rfl D_Md_compares_3.2.2.1.1 rfl) ?_
        exact z_ret (w := some (vI x8)) I (fun g => gk0 _ g ax8) ⟨_, rfl⟩ D_Md_compares_3.2.2.1.2 rfl
      · refine z_s I (s_iload (pc' := 105) 0 rfl D_Md_compares_3.2.1.1.2 rfl) ?_
        refine z_s I (s_ineg (pc' := 106) D_Md_compares_3.2.1.2.1 rfl) ?_
        refine z_s I (s_goto (tgt := 111) D_Md_compares_3.2.1.2.2 rfl) ?_
        exact z_ret (w := some (vI (w32 (-x8)))) I (fun g => gk0 _ g (inR_w32 _)) ⟨_, rfl⟩ D_Md_compares_3.2.2.1.2 rfl
    · refine z_s I (s_iconst (pc' := 93) D_Md_compares_3.1.1.2.2 rfl) ?_
      refine z_s I (s_goto (tgt := 111) D_Md_compares_3.1.2.1.1 rfl) ?_
      exact z_ret (w := some (vI 0)) I (fun g => gk0 _ g (b01.R bz0)) ⟨_, rfl⟩ D_Md_compares_3.2.2.1.2 rfl
  have L17 : ∀ (s : Int × Int × Int × Int × Int), (inR (s.1) ∧ inL (s.2.1) ∧ inL (s.2.2.1) ∧ inL (s.2.2.2.1) ∧ inL (s.2.2.2.2)) → Z Y (m_Md_compares_L17 h s) G0 h 17 [(8, vI (s.1)), (9, vL (s.2.1)), (11, vL (s.2.2.1)), (13, vL (s.2.2.2.1)), (15, vL (s.2.2.2.2))] [] := by
    intro s hs
    refine z_loop (G := G0) (hO := fun s : Int × Int × Int × Int × Int => h) (lO := fun s : Int × Int × Int × Int × Int => [(8, vI (s.1)), (9, vL (s.2.1)), (11, vL (s.2.2.1)), (13, vL (s.2.2.2.1)), (15, vL (s.2.2.2.2))]) (Φ := fun s : Int × Int × Int × Int × Int => inR (s.1) ∧ inL (s.2.1) ∧ inL (s.2.2.1) ∧ inL (s.2.2.2.1) ∧ inL (s.2.2.2.2)) (fun G1 hin1_1 hout1 s hs => ?_) FUEL s hs
    obtain ⟨x8, l9, l11, l13, l15⟩ := s
    obtain ⟨ax8, al9, al11, al13, al15⟩ := hs
    have gk1 := fun (x : Int) (g : G1 (.inr (x))) (q : inR x) => gk0 x (hout1 _ g) q
    show Z Y (m_Md_compares_L17b h x8 l9 l11 l13 l15) G1 h 17 [(8, vI x8), (9, vL l9), (11, vL l11), (13, vL l13), (15, vL l15)] []
    unfold m_Md_compares_L17b
    refine z_s I (s_lload (pc' := 19) 1 rfl D_Md_compares_0.2.1.2.1 rfl) ?_
    refine z_s I (s_lload (pc' := 21) 2 rfl D_Md_compares_0.2.1.2.2 rfl) ?_
    refine z_ldiv (pc' := 22) I al11 D_Md_compares_0.2.2.1.1 rfl (fun c4 => ?_)
    refine z_bL (r_lDiv _ _) (fun v5 e6 f7 => ?_)
    refine z_s I (s_lstore (pc' := 24) (lv' := [(17, vL v5), (8, vI x8), (9, vL l9), (11, vL l11), (13, vL l13), (15, vL l15)]) D_Md_compares_0.2.2.1.2 (by decide) rfl rfl) ?_
    refine z_s I (s_lload (pc' := 26) 4 rfl D_Md_compares_0.2.2.2.1 rfl) ?_
    refine z_s I (s_lload (pc' := 28) 5 rfl D_Md_compares_0.2.2.2.2 rfl) ?_
    refine z_ldiv (pc' := 29) I al15 D_Md_compares_1.1.1.1.1 rfl (fun c8 => ?_)
    refine z_bL (r_lDiv _ _) (fun v9 e10 f11 => ?_)
    refine z_s I (s_lstore (pc' := 31) (lv' := [(19, vL v9), (17, vL v5), (8, vI x8), (9, vL l9), (11, vL l11), (13, vL l13), (15, vL l15)]) D_Md_compares_1.1.1.1.2 (by decide) rfl rfl) ?_
    refine z_s I (s_lload (pc' := 33) 3 rfl D_Md_compares_1.1.1.2.1 rfl) ?_
    refine z_s I (s_lload (pc' := 35) 4 rfl D_Md_compares_1.1.1.2.2 rfl) ?_
    refine z_lrem (pc' := 36) I al11 D_Md_compares_1.1.2.1.1 rfl (fun c12 => ?_)
    refine z_bL (r_lRem _ _) (fun v13 e14 f15 => ?_)
    refine z_s I (s_lstore (pc' := 38) (lv' := [(21, vL v13), (19, vL v9), (17, vL v5), (8, vI x8), (9, vL l9), (11, vL l11), (13, vL l13), (15, vL l15)]) D_Md_compares_1.1.2.1.2 (by decide) rfl rfl) ?_
    refine z_s I (s_lload (pc' := 40) 6 rfl D_Md_compares_1.1.2.2.1 rfl) ?_
    refine z_s I (s_lload (pc' := 42) 7 rfl D_Md_compares_1.1.2.2.2 rfl) ?_
    refine z_lrem (pc' := 43) I al15 D_Md_compares_1.2.1.1.1 rfl (fun c16 => ?_)
    refine z_bL (r_lRem _ _) (fun v17 e18 f19 => ?_)
    refine z_s I (s_lstore (pc' := 45) (lv' := [(23, vL v17), (21, vL v13), (19, vL v9), (17, vL v5), (8, vI x8), (9, vL l9), (11, vL l11), (13, vL l13), (15, vL l15)]) D_Md_compares_1.2.1.1.2 (by decide) rfl rfl) ?_
    refine z_s I (s_lload (pc' := 47) 3 rfl D_Md_compares_1.2.1.2.1 rfl) ?_
    refine z_s I (s_lload (pc' := 49) 2 rfl D_Md_compares_1.2.1.2.2 rfl) ?_
    refine z_s I (s_lcmp (pc' := 50) f7 f11 D_Md_compares_1.2.2.1.1 rfl) ?_
    refine z_if_eq (tgt := 70) (pc' := 53) I (inR_lCmp _ _) D_Md_compares_1.2.2.1.2 rfl rfl (fun c20 => ?_) (fun c20 => ?_)
    · refine z_s I (s_lload (pc' := 72) 1 rfl D_Md_compares_2.1.2.2.2 rfl) ?_
      refine z_s I (s_lconst (pc' := 73) (x := 0) D_Md_compares_2.2.1.1.1 rfl rfl) ?_
      refine z_s I (s_lcmp (pc' := 74) f15 (inL_c (x := 0) rfl) D_Md_compares_2.2.1.1.2 rfl) ?_
      refine z_if_eq (tgt := 84) (pc' := 77) I (inR_lCmp _ _) D_Md_compares_2.2.1.2.1 rfl rfl (fun c21 => ?_) (fun c21 => ?_)
      · refine z_map _ (fun x g => hout1 x g) ?_
        refine z_s I (s_lv (lv' := [(8, vI x8), (21, vL v13), (23, vL v17)]) [4, 1, 0] rfl) ?_
        exact J84 _ ax8 _ f15 _ f19
      · refine z_s I (s_lload (pc' := 79) 0 rfl D_Md_compares_2.2.1.2.2 rfl) ?_
        refine z_s I (s_lconst (pc' := 80) (x := 0) D_Md_compares_2.2.2.1.1 rfl rfl) ?_
        refine z_s I (s_lcmp (pc' := 81) f19 (inL_c (x := 0) rfl) D_Md_compares_2.2.2.1.2 rfl) ?_
        refine z_if_ne (tgt := 112) (pc' := 84) I (inR_lCmp _ _) D_Md_compares_2.2.2.2.1 rfl rfl (fun c22 => ?_) (fun c22 => ?_)
        · refine z_s I (s_lload (pc' := 114) 6 rfl D_Md_compares_3.2.2.2.1 rfl) ?_
          refine z_s I (s_lstore (pc' := 116) (lv' := [(9, vL l11), (23, vL v17), (21, vL v13), (19, vL v9), (17, vL v5), (8, vI x8), (11, vL l11), (13, vL l13), (15, vL l15)]) D_Md_compares_3.2.2.2.2 (by decide) rfl rfl) ?_
          refine z_s I (s_lload (pc' := 118) 2 rfl D_Md_compares_4.1.1.1 rfl) ?_
          refine z_s I (s_lstore (pc' := 120) (lv' := [(11, vL v13), (9, vL l11), (23, vL v17), (21, vL v13), (19, vL v9), (17, vL v5), (8, vI x8), (13, vL l13), (15, vL l15)]) D_Md_compares_4.1.1.2 (by decide) rfl rfl) ?_
          refine z_s I (s_lload (pc' := 122) 8 rfl D_Md_compares_4.1.2.1 rfl) ?_
          refine z_s I (s_lstore (pc' := 124) (lv' := [(13, vL l15), (11, vL v13), (9, vL l11), (23, vL v17), (21, vL v13), (19, vL v9), (17, vL v5), (8, vI x8), (15, vL l15)]) D_Md_compares_4.1.2.2.1 (by decide) rfl rfl) ?_
          refine z_s I (s_lload (pc' := 126) 3 rfl D_Md_compares_4.1.2.2.2 rfl) ?_
          refine z_s I (s_lstore (pc' := 128) (lv' := [(15, vL v17), (13, vL l15), (11, vL v13), (9, vL l11), (23, vL v17), (21, vL v13), (19, vL v9), (17, vL v5), (8, vI x8)]) D_Md_compares_4.2.1.1 (by decide) rfl rfl) ?_
          refine z_s I (s_iload (pc' := 130) 8 rfl D_Md_compares_4.2.1.2 rfl) ?_
          refine z_s I (s_ineg (pc' := 131) D_Md_compares_4.2.2.1 rfl) ?_
          refine z_bI (inR_w32 _) (fun v23 e24 f25 => ?_)
          refine z_s I (s_istore (pc' := 133) (lv' := [(8, vI v23), (15, vL v17), (13, vL l15), (11, vL v13), (9, vL l11), (23, vL v17), (21, vL v13), (19, vL v9), (17, vL v5)]) D_Md_compares_4.2.2.2.1 (by decide) rfl rfl) ?_
          refine z_s I (s_goto (tgt := 17) D_Md_compares_4.2.2.2.2 rfl) ?_
          refine z_s I (s_lv (lv' := [(8, vI v23), (9, vL l11), (11, vL v13), (13, vL l15), (15, vL v17)]) [0, 4, 3, 2, 1] rfl) ?_
          exact z_end (fun g => hin1_1 _ g ⟨f25, al11, f15, al15, f19⟩)
        · refine z_map _ (fun x g => hout1 x g) ?_
          refine z_s I (s_lv (lv' := [(8, vI x8), (21, vL v13), (23, vL v17)]) [4, 1, 0] rfl) ?_
          exact J84 _ ax8 _ f15 _ f19
    · refine z_map _ (fun x g => hout1 x g) ?_
      refine z_s I (s_lv (lv' := [(8, vI x8), (17, vL v5), (19, vL v9)]) [4, 3, 2] rfl) ?_
      exact J53 _ ax8 _ f7 _ f11
  have main : Z Y (m_Md_compares l0 l2 l4 l6 h) G0 h 0 [(0, vL l0), (2, vL l2), (4, vL l4), (6, vL l6)] [] := by
    unfold m_Md_compares
    refine z_s I (s_iconst (pc' := 1) D_Md_compares_0.1.1.1.1 rfl) ?_
    refine z_s I (s_istore (pc' := 3) (lv' := [(8, vI 1), (0, vL l0), (2, vL l2), (4, vL l4), (6, vL l6)]) D_Md_compares_0.1.1.1.2 (by decide) rfl rfl) ?_
    refine z_s I (s_lload_n (pc' := 4) 1 rfl D_Md_compares_0.1.1.2.1 rfl rfl) ?_
    refine z_s I (s_lstore (pc' := 6) (lv' := [(9, vL l0), (8, vI 1), (0, vL l0), (2, vL l2), (4, vL l4), (6, vL l6)]) D_Md_compares_0.1.1.2.2 (by decide) rfl rfl) ?_
    refine z_s I (s_lload_n (pc' := 7) 3 rfl D_Md_compares_0.1.2.1.1 rfl rfl) ?_
    refine z_s I (s_lstore (pc' := 9) (lv' := [(11, vL l2), (9, vL l0), (8, vI 1), (0, vL l0), (2, vL l2), (4, vL l4), (6, vL l6)]) D_Md_compares_0.1.2.1.2 (by decide) rfl rfl) ?_
    refine z_s I (s_lload (pc' := 11) 5 rfl D_Md_compares_0.1.2.2.1 rfl) ?_
    refine z_s I (s_lstore (pc' := 13) (lv' := [(13, vL l4), (11, vL l2), (9, vL l0), (8, vI 1), (0, vL l0), (2, vL l2), (4, vL l4), (6, vL l6)]) D_Md_compares_0.1.2.2.2 (by decide) rfl rfl) ?_
    refine z_s I (s_lload (pc' := 15) 7 rfl D_Md_compares_0.2.1.1.1 rfl) ?_
    refine z_s I (s_lstore (pc' := 17) (lv' := [(15, vL l6), (13, vL l4), (11, vL l2), (9, vL l0), (8, vI 1), (0, vL l0), (2, vL l2), (4, vL l4), (6, vL l6)]) D_Md_compares_0.2.1.1.2 (by decide) rfl rfl) ?_
    refine z_s I (s_lv (lv' := [(8, vI 1), (9, vL l0), (11, vL l2), (13, vL l4), (15, vL l6)]) [4, 3, 2, 1, 0] rfl) ?_
    exact L17 _ ⟨(b01.R bz1), al0, al2, al4, al6⟩
  exact main _ hF (by rw [hG0])
set_option maxHeartbeats 4000000 in
set_option maxRecDepth 20000 in
theorem c_Md_source {l : Launch} {τ : TP} {o : Int} {x1 : Int} {x2 : Int} {h : HP} {r : Int} {h' : HP} (hw : wf τ) (ao : ok τ (4, 10) o) (ax1 : inR x1) (ax2 : inR x2) (hh : hr τ h) (hF : m_Md_source o x1 x2 h = some (r, h')) : Ctr l y_Md_source k_Md_source 10 (Option.some FieldType.int) 6 168 τ (fun ad => [vR ad o, vI x1, vI x2]) h (some (vI r)) h' (inR r) := by
  refine ctr_of (by decide) hw hh (fun ad => Nat.le_of_ble_eq_true rfl) (fun ad K Y I hK => ?_)
  obtain ⟨G0, hG0⟩ : ∃ G : Int × HP → Prop, G = fun x => x = (r, h') := ⟨_, rfl⟩
  have gk0 : ∀ (x : Int) (y : HP), G0 (x, y) → inR x → K (some (vI x)) y := fun x y g q => by
    rw [hG0] at g
    cases g
    exact hK q
  have main : Z Y (m_Md_source o x1 x2 h) G0 h 0 [(0, vR ad o), (1, vI x1), (2, vI x2)] [] := by
    unfold m_Md_source
    refine z_s I (s_aload_n (pc' := 1) 0 rfl D_Md_source_0.1.1.1.1 rfl rfl) ?_
    refine z_s I (s_iload_n (pc' := 2) 1 rfl D_Md_source_0.1.1.1.2 rfl rfl) ?_
    refine z_s I (s_iload_n (pc' := 3) 2 rfl D_Md_source_0.1.1.2.1 rfl rfl) ?_
    refine z_b1 (fun r3 q2 => ?_)
    refine z_callV (pc' := 6) I mv_Md_isTwo ml_Md_230 (fun ad => [vI x1, vI x2]) ⟨Nat.le_of_ble_eq_true rfl, Nat.le_of_ble_eq_true rfl⟩ ao (fun hh => c_Md_isTwo hw ao ax1 ax2 hh q2) rfl rfl (Nat.le_of_ble_eq_true rfl) D_Md_source_0.1.1.2.2 rfl (fun f1 => ?_)
    refine z_if_ne (tgt := 11) (pc' := 9) I (b01.R f1) D_Md_source_0.1.2.1.1 rfl rfl (fun c4 => ?_) (fun c4 => ?_)
    · refine z_s I (s_aload_n (pc' := 12) 0 rfl D_Md_source_0.1.2.2.2 rfl rfl) ?_
      refine z_s I (s_iload_n (pc' := 13) 1 rfl D_Md_source_0.2.1.1.1 rfl rfl) ?_
      refine z_s I (s_iload_n (pc' := 14) 2 rfl D_Md_source_0.2.1.1.2 rfl rfl) ?_
      refine z_s I (s_iconst (pc' := 15) D_Md_source_0.2.1.2.1 rfl) ?_
      refine z_s I (s_iconst (pc' := 16) D_Md_source_0.2.1.2.2 rfl) ?_
      refine z_b2 (fun r7 h8 q6 => ?_)
      refine z_callV (pc' := 19) I mv_Md_asMuch ml_Md_261 (fun ad => [vI x1, vI x2, vI 2, vI (-1)]) ⟨Nat.le_of_ble_eq_true rfl, Nat.le_of_ble_eq_true rfl⟩ ao (fun hh => c_Md_asMuch hw ao ax1 ax2 (inR_c (x := 2) rfl) (inR_c (x := (-1)) rfl) hh q6) rfl rfl (Nat.le_of_ble_eq_true rfl) D_Md_source_0.2.2.1.1 rfl (fun f5 => ?_)
      refine z_s I (s_lstore_n (pc' := 20) (lv' := [(3, vL r7), (0, vR ad o), (1, vI x1), (2, vI x2)]) D_Md_source_0.2.2.1.2 rfl (by decide) rfl rfl) ?_
      refine z_s I (s_aload_n (pc' := 21) 1 rfl D_Md_source_0.2.2.2.1 rfl rfl) ?_
      refine z_getL (pc' := 24) (jI := 28) I g_Md_248 ao rfl rfl D_Md_source_0.2.2.2.2 rfl (fun f9 => ?_)
      refine z_bL f9 (fun v10 e11 f12 => ?_)
      refine z_s I (s_lstore (pc' := 26) (lv' := [(5, vL v10), (3, vL r7), (0, vR ad o), (1, vI x1), (2, vI x2)]) D_Md_source_1.1.1.1.1 (by decide) rfl rfl) ?_
      refine z_s I (s_aload_n (pc' := 27) 2 rfl D_Md_source_1.1.1.1.2 rfl rfl) ?_
      refine z_s I (s_iload_n (pc' := 28) 4 rfl D_Md_source_1.1.1.2.1 rfl rfl) ?_
      refine z_s I (s_iload_n (pc' := 29) 3 rfl D_Md_source_1.1.1.2.2 rfl rfl) ?_
      refine z_s I (s_iconst (pc' := 30) D_Md_source_1.1.2.1.1 rfl) ?_
      refine z_s I (s_iconst (pc' := 31) D_Md_source_1.1.2.1.2 rfl) ?_
      refine z_b2 (fun r15 h16 q14 => ?_)
      refine z_callV (pc' := 34) I mv_Md_asMuch ml_Md_261 (fun ad => [vI x2, vI x1, vI 2, vI (-1)]) ⟨Nat.le_of_ble_eq_true rfl, Nat.le_of_ble_eq_true rfl⟩ ao (fun hh => c_Md_asMuch hw ao ax2 ax1 (inR_c (x := 2) rfl) (inR_c (x := (-1)) rfl) hh q14) rfl rfl (Nat.le_of_ble_eq_true rfl) D_Md_source_1.1.2.2.1 rfl (fun f13 => ?_)
      refine z_s I (s_lstore (pc' := 36) (lv' := [(7, vL r15), (5, vL v10), (3, vL r7), (0, vR ad o), (1, vI x1), (2, vI x2)]) D_Md_source_1.1.2.2.2 (by decide) rfl rfl) ?_
      refine z_s I (s_lload_n (pc' := 37) 2 rfl D_Md_source_1.2.1.1.1 rfl rfl) ?_
      refine z_s I (s_lload (pc' := 39) 1 rfl D_Md_source_1.2.1.1.2 rfl) ?_
      refine z_s I (s_lload (pc' := 41) 0 rfl D_Md_source_1.2.1.2.1 rfl) ?_
      refine z_s I (s_aload_n (pc' := 42) 3 rfl D_Md_source_1.2.1.2.2 rfl rfl) ?_
      refine z_getL (pc' := 45) (jI := 28) I g_Md_248 ao rfl rfl D_Md_source_1.2.2.1.1 rfl (fun f17 => ?_)
      refine z_b1 (fun r20 q19 => ?_)
      refine z_callS (pc' := 48) I mv_Md_compares ml_Md_271 (fun ad => [vL r7, vL v10, vL r15, vL (h16 o 28)]) ⟨Nat.le_of_ble_eq_true rfl, Nat.le_of_ble_eq_true rfl⟩ (fun hh => c_Md_compares hw f5 f12 f13 f17 hh q19) rfl rfl (Nat.le_of_ble_eq_true rfl) D_Md_source_1.2.2.1.2 rfl (fun f18 => ?_)
      refine z_s I (s_istore (pc' := 50) (lv' := [(9, vI r20), (7, vL r15), (5, vL v10), (3, vL r7), (0, vR ad o), (1, vI x1), (2, vI x2)]) D_Md_source_1.2.2.2.1 (by decide) rfl rfl) ?_
      refine z_s I (s_iload (pc' := 52) 0 rfl D_Md_source_1.2.2.2.2 rfl) ?_
      refine z_if_ne (tgt := 60) (pc' := 55) I f18 D_Md_source_2.1.1.1 rfl rfl (fun c21 => ?_) (fun c21 => ?_)
      · refine z_s I (s_iload (pc' := 62) 0 rfl D_Md_source_2.1.2.2 rfl) ?_
        refine z_if_ge (tgt := 69) (pc' := 65) I f18 D_Md_source_2.2.1.1 rfl rfl (fun c22 => ?_) (fun c22 => ?_)
        · refine z_s I (s_iload_n (pc' := 70) 6 rfl D_Md_source_2.2.2.2.1 rfl rfl) ?_
          exact z_ret (w := some (vI x2)) I (fun g => gk0 _ _ g ax2) ⟨_, rfl⟩ D_Md_source_2.2.2.2.2 rfl
        · refine z_s I (s_iload_n (pc' := 66) 5 rfl D_Md_source_2.2.1.2 rfl rfl) ?_
          refine z_s I (s_goto (tgt := 70) D_Md_source_2.2.2.1 rfl) ?_
          exact z_ret (w := some (vI x1)) I (fun g => gk0 _ _ g ax1) ⟨_, rfl⟩ D_Md_source_2.2.2.2.2 rfl
      · refine z_s I (s_bipush (pc' := 57) D_Md_source_2.1.1.2 rfl rfl) ?_
        refine z_s I (s_goto (tgt := 70) D_Md_source_2.1.2.1 rfl) ?_
        exact z_ret (w := some (vI (-5))) I (fun g => gk0 _ _ g (inR_c (x := (-5)) rfl)) ⟨_, rfl⟩ D_Md_source_2.2.2.2.2 rfl
    · refine z_s I (s_iconst (pc' := 10) D_Md_source_0.1.2.1.2 rfl) ?_
      exact z_ret (w := some (vI (-1))) I (fun g => gk0 _ _ g (inR_c (x := (-1)) rfl)) ⟨_, rfl⟩ D_Md_source_0.1.2.2.1 rfl
  exact main _ hF (by rw [hG0])
set_option maxHeartbeats 4000000 in
set_option maxRecDepth 20000 in
theorem c_Md_without {l : Launch} {τ : TP} {o : Int} {x1 : Int} {x2 : Int} {x3 : Int} {x4 : Int} {h : HP} {r : Int} {h' : HP} (hw : wf τ) (ao : ok τ (4, 10) o) (ax1 : inR x1) (ax2 : inR x2) (ax3 : inR x3) (ax4 : inR x4) (hh : hr τ h) (hF : m_Md_without o x1 x2 x3 x4 h = some (r, h')) : Ctr l y_Md_without k_Md_without 7 (Option.some FieldType.long) 6 168 τ (fun ad => [vR ad o, vI x1, vI x2, vI x3, vI x4]) h (some (vL r)) h' (inL r) := by
  refine ctr_of (by decide) hw hh (fun ad => Nat.le_of_ble_eq_true rfl) (fun ad K Y I hK => ?_)
  obtain ⟨G0, hG0⟩ : ∃ G : Int × HP → Prop, G = fun x => x = (r, h') := ⟨_, rfl⟩
  have gk0 : ∀ (x : Int) (y : HP), G0 (x, y) → inL x → K (some (vL x)) y := fun x y g q => by
    rw [hG0] at g
    cases g
    exact hK q
  have main : Z Y (m_Md_without o x1 x2 x3 x4 h) G0 h 0 [(0, vR ad o), (1, vI x1), (2, vI x2), (3, vI x3), (4, vI x4)] [] := by
    unfold m_Md_without
    refine z_s I (s_aload_n (pc' := 1) 0 rfl D_Md_without_0.1.1.1.1 rfl rfl) ?_
    refine z_s I (s_iload_n (pc' := 2) 1 rfl D_Md_without_0.1.1.1.2 rfl rfl) ?_
    refine z_s I (s_iload_n (pc' := 3) 2 rfl D_Md_without_0.1.1.2.1 rfl rfl) ?_
    refine z_b1 (fun r3 q2 => ?_)
    refine z_callV (pc' := 6) I mv_Md_isTwo ml_Md_230 (fun ad => [vI x1, vI x2]) ⟨Nat.le_of_ble_eq_true rfl, Nat.le_of_ble_eq_true rfl⟩ ao (fun hh => c_Md_isTwo hw ao ax1 ax2 hh q2) rfl rfl (Nat.le_of_ble_eq_true rfl) D_Md_without_0.1.1.2.2 rfl (fun f1 => ?_)
    refine z_if_eq (tgt := 28) (pc' := 9) I (b01.R f1) D_Md_without_0.1.2.1.1 rfl rfl (fun c4 => ?_) (fun c4 => ?_)
    · refine z_ldc2 (pc' := 31) (x := (-9223372036854775808)) I cl_Md_259 (by decide +kernel) D_Md_without_0.2.2.2.2 rfl ?_
      exact z_ret (w := some (vL (-9223372036854775808))) I (fun g => gk0 _ _ g (inL_c (x := (-9223372036854775808)) rfl)) ⟨_, rfl⟩ D_Md_without_1.1.1.1 rfl
    · refine z_s I (s_aload_n (pc' := 10) 0 rfl D_Md_without_0.1.2.1.2 rfl rfl) ?_
      refine z_s I (s_iload_n (pc' := 11) 3 rfl D_Md_without_0.1.2.2.1 rfl rfl) ?_
      refine z_b1 (fun r7 q6 => ?_)
      refine z_callV (pc' := 14) I mv_Md_isItem ml_Md_160 (fun ad => [vI x3]) ⟨Nat.le_of_ble_eq_true rfl, Nat.le_of_ble_eq_true rfl⟩ ao (fun hh => c_Md_isItem hw ao ax3 hh q6) rfl rfl (Nat.le_of_ble_eq_true rfl) D_Md_without_0.1.2.2.2 rfl (fun f5 => ?_)
      refine z_if_eq (tgt := 28) (pc' := 17) I (b01.R f5) D_Md_without_0.2.1.1.1 rfl rfl (fun c8 => ?_) (fun c8 => ?_)
      · refine z_ldc2 (pc' := 31) (x := (-9223372036854775808)) I cl_Md_259 (by decide +kernel) D_Md_without_0.2.2.2.2 rfl ?_
        exact z_ret (w := some (vL (-9223372036854775808))) I (fun g => gk0 _ _ g (inL_c (x := (-9223372036854775808)) rfl)) ⟨_, rfl⟩ D_Md_without_1.1.1.1 rfl
      · refine z_s I (s_iload (pc' := 19) 4 rfl D_Md_without_0.2.1.1.2 rfl) ?_
        refine z_s I (s_i2l (pc' := 20) ax4 D_Md_without_0.2.1.2.1 rfl) ?_
        refine z_s I (s_lconst (pc' := 21) (x := 0) D_Md_without_0.2.1.2.2 rfl rfl) ?_
        refine z_s I (s_lconst (pc' := 22) (x := 1) D_Md_without_0.2.2.1.1 rfl rfl) ?_
        refine z_b1 (fun r11 q10 => ?_)
        refine z_callS (pc' := 25) I mv_Md_in ml_Md_119 (fun ad => [vL x4, vL 0, vL 1]) ⟨Nat.le_of_ble_eq_true rfl, Nat.le_of_ble_eq_true rfl⟩ (fun hh => c_Md_in hw (ax4).L (inL_c (x := 0) rfl) (inL_c (x := 1) rfl) hh q10) rfl rfl (Nat.le_of_ble_eq_true rfl) D_Md_without_0.2.2.1.2 rfl (fun f9 => ?_)
        refine z_if_ne (tgt := 32) (pc' := 28) I (b01.R f9) D_Md_without_0.2.2.2.1 rfl rfl (fun c12 => ?_) (fun c12 => ?_)
        · refine z_s I (s_aload_n (pc' := 33) 0 rfl D_Md_without_1.1.1.2.1 rfl rfl) ?_
          refine z_s I (s_iload_n (pc' := 34) 1 rfl D_Md_without_1.1.1.2.2 rfl rfl) ?_
          refine z_s I (s_iload_n (pc' := 35) 2 rfl D_Md_without_1.1.2.1.1 rfl rfl) ?_
          refine z_s I (s_iconst (pc' := 36) D_Md_without_1.1.2.1.2 rfl) ?_
          refine z_s I (s_iload_n (pc' := 37) 3 rfl D_Md_without_1.1.2.2.1 rfl rfl) ?_
          refine z_b2 (fun r15 h16 q14 => ?_)
          refine z_callV (pc' := 40) I mv_Md_asMuch ml_Md_261 (fun ad => [vI x1, vI x2, vI 0, vI x3]) ⟨Nat.le_of_ble_eq_true rfl, Nat.le_of_ble_eq_true rfl⟩ ao (fun hh => c_Md_asMuch hw ao ax1 ax2 (b01.R bz0) ax3 hh q14) rfl rfl (Nat.le_of_ble_eq_true rfl) D_Md_without_1.1.2.2.2 rfl (fun f13 => ?_)
          refine z_s I (s_lstore (pc' := 42) (lv' := [(5, vL r15), (0, vR ad o), (1, vI x1), (2, vI x2), (3, vI x3), (4, vI x4)]) D_Md_without_1.2.1.1 (by decide) rfl rfl) ?_
          refine z_s I (s_lload (pc' := 44) 0 rfl D_Md_without_1.2.1.2.1 rfl) ?_
          refine z_s I (s_aload_n (pc' := 45) 1 rfl D_Md_without_1.2.1.2.2 rfl rfl) ?_
          refine z_getL (pc' := 48) (jI := 28) I g_Md_248 ao rfl rfl D_Md_without_1.2.2.1.1 rfl (fun f17 => ?_)
          refine z_s I (s_iload (pc' := 50) 5 rfl D_Md_without_1.2.2.1.2 rfl) ?_
          refine z_b1 (fun r20 q19 => ?_)
          refine z_callS (pc' := 53) I mv_Md_lowest ml_Md_265 (fun ad => [vL r15, vL (h16 o 28), vI x4]) ⟨Nat.le_of_ble_eq_true rfl, Nat.le_of_ble_eq_true rfl⟩ (fun hh => c_Md_lowest hw f13 f17 ax4 hh q19) rfl rfl (Nat.le_of_ble_eq_true rfl) D_Md_without_1.2.2.2.1 rfl (fun f18 => ?_)
          exact z_ret (w := some (vL r20)) I (fun g => gk0 _ _ g f18) ⟨_, rfl⟩ D_Md_without_1.2.2.2.2 rfl
        · refine z_ldc2 (pc' := 31) (x := (-9223372036854775808)) I cl_Md_259 (by decide +kernel) D_Md_without_0.2.2.2.2 rfl ?_
          exact z_ret (w := some (vL (-9223372036854775808))) I (fun g => gk0 _ _ g (inL_c (x := (-9223372036854775808)) rfl)) ⟨_, rfl⟩ D_Md_without_1.1.1.1 rfl
  exact main _ hF (by rw [hG0])
set_option maxHeartbeats 4000000 in
set_option maxRecDepth 20000 in
theorem c_Md_key {l : Launch} {τ : TP} {o : Int} {x1 : Int} {x2 : Int} {h : HP} {r : Int} {h' : HP} (hw : wf τ) (ao : ok τ (4, 10) o) (ax1 : inR x1) (ax2 : inR x2) (hh : hr τ h) (hF : m_Md_key o x1 x2 h = some (r, h')) : Ctr l y_Md_key k_Md_key 11 (Option.some FieldType.int) 6 168 τ (fun ad => [vR ad o, vI x1, vI x2]) h (some (vI r)) h' (inR r) := by
  refine ctr_of (by decide) hw hh (fun ad => Nat.le_of_ble_eq_true rfl) (fun ad K Y I hK => ?_)
  obtain ⟨G0, hG0⟩ : ∃ G : Int × HP → Prop, G = fun x => x = (r, h') := ⟨_, rfl⟩
  have gk0 : ∀ (x : Int) (y : HP), G0 (x, y) → inR x → K (some (vI x)) y := fun x y g q => by
    rw [hG0] at g
    cases g
    exact hK q
  have L32 : ∀ (s : Int × Int × Int × Int × HP), (inR (s.1) ∧ inL (s.2.1) ∧ inL (s.2.2.1) ∧ inR (s.2.2.2.1)) → Z Y (m_Md_key_L32 o x1 x2 s) G0 (s.2.2.2.2) 32 [(0, vR ad o), (1, vI x1), (2, vI x2), (3, vI (s.1)), (4, vL (s.2.1)), (6, vL (s.2.2.1)), (8, vI (s.2.2.2.1))] [] := by
    intro s hs
    refine z_loop (G := G0) (hO := fun s : Int × Int × Int × Int × HP => s.2.2.2.2) (lO := fun s : Int × Int × Int × Int × HP => [(0, vR ad o), (1, vI x1), (2, vI x2), (3, vI (s.1)), (4, vL (s.2.1)), (6, vL (s.2.2.1)), (8, vI (s.2.2.2.1))]) (Φ := fun s : Int × Int × Int × Int × HP => inR (s.1) ∧ inL (s.2.1) ∧ inL (s.2.2.1) ∧ inR (s.2.2.2.1)) (fun G1 hin1_1 hout1 s hs => ?_) FUEL s hs
    obtain ⟨x3, l4, l6, x8, h⟩ := s
    obtain ⟨ax3, al4, al6, ax8⟩ := hs
    have gk1 := fun (x : Int) (y : HP) (g : G1 (.inr ((x, y)))) (q : inR x) => gk0 x y (hout1 _ g) q
    show Z Y (m_Md_key_L32b o x1 x2 x3 l4 l6 x8 h) G1 h 32 [(0, vR ad o), (1, vI x1), (2, vI x2), (3, vI x3), (4, vL l4), (6, vL l6), (8, vI x8)] []
    unfold m_Md_key_L32b
    refine z_s I (s_iload (pc' := 34) 6 rfl D_Md_key_1.1.2.1.2 rfl) ?_
    refine z_s I (s_aload_n (pc' := 35) 0 rfl D_Md_key_1.1.2.2.1 rfl rfl) ?_
    refine z_getI (pc' := 38) (jI := 0) I g_Md_9 ao rfl rfl D_Md_key_1.1.2.2.2 rfl (fun f1 => ?_)
    refine z_icmp_ge (tgt := 87) (pc' := 41) I ax8 f1 D_Md_key_1.2.1.1.1 rfl rfl (fun c2 => ?_) (fun c2 => ?_)
    · refine z_s I (s_iload_n (pc' := 88) 3 rfl D_Md_key_3.1 rfl rfl) ?_
      exact z_ret (w := some (vI x3)) I (fun g => gk1 _ _ g ax3) ⟨_, rfl⟩ D_Md_key_3.2 rfl
    · refine z_s I (s_aload_n (pc' := 42) 0 rfl D_Md_key_1.2.1.1.2 rfl rfl) ?_
      refine z_s I (s_iload_n (pc' := 43) 1 rfl D_Md_key_1.2.1.2.1 rfl rfl) ?_
      refine z_s I (s_iload_n (pc' := 44) 2 rfl D_Md_key_1.2.1.2.2 rfl rfl) ?_
      refine z_s I (s_iconst (pc' := 45) D_Md_key_1.2.2.1.1 rfl) ?_
      refine z_s I (s_iload (pc' := 47) 6 rfl D_Md_key_1.2.2.1.2 rfl) ?_
      refine z_b2 (fun r5 h6 q4 => ?_)
      refine z_callV (pc' := 50) I mv_Md_asMuch ml_Md_261 (fun ad => [vI x1, vI x2, vI 0, vI x8]) ⟨Nat.le_of_ble_eq_true rfl, Nat.le_of_ble_eq_true rfl⟩ ao (fun hh => c_Md_asMuch hw ao ax1 ax2 (b01.R bz0) ax8 hh q4) rfl rfl (Nat.le_of_ble_eq_true rfl) D_Md_key_1.2.2.2.1 rfl (fun f3 => ?_)
      refine z_s I (s_lstore (pc' := 52) (lv' := [(9, vL r5), (0, vR ad o), (1, vI x1), (2, vI x2), (3, vI x3), (4, vL l4), (6, vL l6), (8, vI x8)]) D_Md_key_1.2.2.2.2 (by decide) rfl rfl) ?_
      refine z_s I (s_lload (pc' := 54) 0 rfl D_Md_key_2.1.1.1.1 rfl) ?_
      refine z_s I (s_aload_n (pc' := 55) 1 rfl D_Md_key_2.1.1.1.2 rfl rfl) ?_
      refine z_getL (pc' := 58) (jI := 28) I g_Md_248 ao rfl rfl D_Md_key_2.1.1.2.1 rfl (fun f7 => ?_)
      refine z_s I (s_lload (pc' := 60) 5 rfl D_Md_key_2.1.1.2.2 rfl) ?_
      refine z_s I (s_lload (pc' := 62) 6 rfl D_Md_key_2.1.2.1.1 rfl) ?_
      refine z_b1 (fun r10 q9 => ?_)
      refine z_callS (pc' := 65) I mv_Md_compares ml_Md_271 (fun ad => [vL r5, vL (h6 o 28), vL l4, vL l6]) ⟨Nat.le_of_ble_eq_true rfl, Nat.le_of_ble_eq_true rfl⟩ (fun hh => c_Md_compares hw f3 f7 al4 al6 hh q9) rfl rfl (Nat.le_of_ble_eq_true rfl) D_Md_key_2.1.2.1.2 rfl (fun f8 => ?_)
      refine z_if_le (tgt := 81) (pc' := 68) I f8 D_Md_key_2.1.2.2.1 rfl rfl (fun c11 => ?_) (fun c11 => ?_)
      · refine z_s I (s_iinc (pc' := 84) (lv' := [(8, vI (w32 (x8 + 1))), (9, vL r5), (0, vR ad o), (1, vI x1), (2, vI x2), (3, vI x3), (4, vL l4), (6, vL l6)]) (n := 7) rfl D_Md_key_2.2.2.2.1 (by decide) rfl rfl) ?_
        refine z_s I (s_goto (tgt := 32) D_Md_key_2.2.2.2.2 rfl) ?_
        refine z_s I (s_lv (lv' := [(0, vR ad o), (1, vI x1), (2, vI x2), (3, vI x3), (4, vL l4), (6, vL l6), (8, vI (w32 (x8 + 1)))]) [2, 3, 4, 5, 6, 7, 0] rfl) ?_
        exact z_end (fun g => hin1_1 _ g ⟨ax3, al4, al6, (inR_w32 _)⟩)
      · refine z_s I (s_iload (pc' := 70) 7 rfl D_Md_key_2.1.2.2.2 rfl) ?_
        refine z_s I (s_istore_n (pc' := 71) (lv' := [(3, vI x8), (9, vL r5), (0, vR ad o), (1, vI x1), (2, vI x2), (4, vL l4), (6, vL l6), (8, vI x8)]) D_Md_key_2.2.1.1.1 rfl (by decide) rfl rfl) ?_
        refine z_s I (s_lload (pc' := 73) 1 rfl D_Md_key_2.2.1.1.2 rfl) ?_
        refine z_s I (s_lstore (pc' := 75) (lv' := [(4, vL r5), (3, vI x8), (9, vL r5), (0, vR ad o), (1, vI x1), (2, vI x2), (6, vL l6), (8, vI x8)]) D_Md_key_2.2.1.2.1 (by decide) rfl rfl) ?_
        refine z_s I (s_aload_n (pc' := 76) 3 rfl D_Md_key_2.2.1.2.2 rfl rfl) ?_
        refine z_getL (pc' := 79) (jI := 28) I g_Md_248 ao rfl rfl D_Md_key_2.2.2.1.1 rfl (fun f12 => ?_)
        refine z_bL f12 (fun v13 e14 f15 => ?_)
        refine z_s I (s_lstore (pc' := 81) (lv' := [(6, vL v13), (4, vL r5), (3, vI x8), (9, vL r5), (0, vR ad o), (1, vI x1), (2, vI x2), (8, vI x8)]) D_Md_key_2.2.2.1.2 (by decide) rfl rfl) ?_
        refine z_s I (s_iinc (pc' := 84) (lv' := [(8, vI (w32 (x8 + 1))), (6, vL v13), (4, vL r5), (3, vI x8), (9, vL r5), (0, vR ad o), (1, vI x1), (2, vI x2)]) (n := 7) rfl D_Md_key_2.2.2.2.1 (by decide) rfl rfl) ?_
        refine z_s I (s_goto (tgt := 32) D_Md_key_2.2.2.2.2 rfl) ?_
        refine z_s I (s_lv (lv' := [(0, vR ad o), (1, vI x1), (2, vI x2), (3, vI x8), (4, vL r5), (6, vL v13), (8, vI (w32 (x8 + 1)))]) [5, 6, 7, 3, 2, 1, 0] rfl) ?_
        exact z_end (fun g => hin1_1 _ g ⟨ax8, f3, f15, (inR_w32 _)⟩)
  have main : Z Y (m_Md_key o x1 x2 h) G0 h 0 [(0, vR ad o), (1, vI x1), (2, vI x2)] [] := by
    unfold m_Md_key
    refine z_s I (s_aload_n (pc' := 1) 0 rfl D_Md_key_0.1.1.1.1 rfl rfl) ?_
    refine z_s I (s_iload_n (pc' := 2) 1 rfl D_Md_key_0.1.1.1.2 rfl rfl) ?_
    refine z_s I (s_iload_n (pc' := 3) 2 rfl D_Md_key_0.1.1.2.1 rfl rfl) ?_
    refine z_b1 (fun r18 q17 => ?_)
    refine z_callV (pc' := 6) I mv_Md_isTwo ml_Md_230 (fun ad => [vI x1, vI x2]) ⟨Nat.le_of_ble_eq_true rfl, Nat.le_of_ble_eq_true rfl⟩ ao (fun hh => c_Md_isTwo hw ao ax1 ax2 hh q17) rfl rfl (Nat.le_of_ble_eq_true rfl) D_Md_key_0.1.1.2.2 rfl (fun f16 => ?_)
    refine z_if_ne (tgt := 11) (pc' := 9) I (b01.R f16) D_Md_key_0.1.2.1.1 rfl rfl (fun c19 => ?_) (fun c19 => ?_)
    · refine z_s I (s_iconst (pc' := 12) D_Md_key_0.1.2.2.2 rfl) ?_
      refine z_s I (s_istore_n (pc' := 13) (lv' := [(3, vI 0), (0, vR ad o), (1, vI x1), (2, vI x2)]) D_Md_key_0.2.1.1.1 rfl (by decide) rfl rfl) ?_
      refine z_s I (s_aload_n (pc' := 14) 1 rfl D_Md_key_0.2.1.1.2 rfl rfl) ?_
      refine z_s I (s_iload_n (pc' := 15) 2 rfl D_Md_key_0.2.1.2.1 rfl rfl) ?_
      refine z_s I (s_iload_n (pc' := 16) 3 rfl D_Md_key_0.2.1.2.2 rfl rfl) ?_
      refine z_s I (s_iconst (pc' := 17) D_Md_key_0.2.2.1.1 rfl) ?_
      refine z_s I (s_iconst (pc' := 18) D_Md_key_0.2.2.1.2 rfl) ?_
      refine z_b2 (fun r22 h23 q21 => ?_)
      refine z_callV (pc' := 21) I mv_Md_asMuch ml_Md_261 (fun ad => [vI x1, vI x2, vI 0, vI 0]) ⟨Nat.le_of_ble_eq_true rfl, Nat.le_of_ble_eq_true rfl⟩ ao (fun hh => c_Md_asMuch hw ao ax1 ax2 (b01.R bz0) (b01.R bz0) hh q21) rfl rfl (Nat.le_of_ble_eq_true rfl) D_Md_key_0.2.2.2.1 rfl (fun f20 => ?_)
      refine z_s I (s_lstore (pc' := 23) (lv' := [(4, vL r22), (3, vI 0), (0, vR ad o), (1, vI x1), (2, vI x2)]) D_Md_key_0.2.2.2.2 (by decide) rfl rfl) ?_
      refine z_s I (s_aload_n (pc' := 24) 2 rfl D_Md_key_1.1.1.1.1 rfl rfl) ?_
      refine z_getL (pc' := 27) (jI := 28) I g_Md_248 ao rfl rfl D_Md_key_1.1.1.1.2 rfl (fun f24 => ?_)
      refine z_bL f24 (fun v25 e26 f27 => ?_)
      refine z_s I (s_lstore (pc' := 29) (lv' := [(6, vL v25), (4, vL r22), (3, vI 0), (0, vR ad o), (1, vI x1), (2, vI x2)]) D_Md_key_1.1.1.2.1 (by decide) rfl rfl) ?_
      refine z_s I (s_iconst (pc' := 30) D_Md_key_1.1.1.2.2 rfl) ?_
      refine z_s I (s_istore (pc' := 32) (lv' := [(8, vI 1), (6, vL v25), (4, vL r22), (3, vI 0), (0, vR ad o), (1, vI x1), (2, vI x2)]) D_Md_key_1.1.2.1.1 (by decide) rfl rfl) ?_
      refine z_s I (s_lv (lv' := [(0, vR ad o), (1, vI x1), (2, vI x2), (3, vI 0), (4, vL r22), (6, vL v25), (8, vI 1)]) [4, 5, 6, 3, 2, 1, 0] rfl) ?_
      exact L32 _ ⟨(b01.R bz0), f20, f27, (b01.R bz1)⟩
    · refine z_s I (s_iconst (pc' := 10) D_Md_key_0.1.2.1.2 rfl) ?_
      exact z_ret (w := some (vI (-1))) I (fun g => gk0 _ _ g (inR_c (x := (-1)) rfl)) ⟨_, rfl⟩ D_Md_key_0.1.2.2.1 rfl
  exact main _ hF (by rw [hG0])
