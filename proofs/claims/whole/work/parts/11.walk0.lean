set_option maxHeartbeats 4000000 in
set_option maxRecDepth 20000 in
theorem c_Exam_leaveBlank {l : Launch} {τ : TP} {o : Int} {x1 : Int} {h : HP} {h' : HP} (hw : wf τ) (ao : ok τ (4, 1) o) (ax1 : inR x1) (hh : hr τ h) (hF : m_Exam_leaveBlank o x1 h = some h') : Ctr l y_Exam_leaveBlank k_Exam_leaveBlank 3 (Option.none : Option FieldType) 0 0 τ (fun ad => [vR ad o, vI x1]) h none h' (True) := by
  refine ctr_of (by decide) hw hh (fun ad => Nat.le_of_ble_eq_true rfl) (fun ad K Y I hK => ?_)
  obtain ⟨G0, hG0⟩ : ∃ G : HP → Prop, G = fun x => x = h' := ⟨_, rfl⟩
  have gk0 : ∀ (x : HP), G0 x → K none x := fun x g => by
    rw [hG0] at g
    cases g
    exact hK trivial
  have L2 : ∀ (s : Int × HP), (inR (s.1)) → Z Y (m_Exam_leaveBlank_L2 o x1 s) G0 (s.2) 2 [(0, vR ad o), (1, vI x1), (2, vI (s.1))] [] := by
    intro s hs
    refine z_loop (G := G0) (hO := fun s : Int × HP => s.2) (lO := fun s : Int × HP => [(0, vR ad o), (1, vI x1), (2, vI (s.1))]) (Φ := fun s : Int × HP => inR (s.1)) (fun G1 hin1_1 hout1 s hs => ?_) FUEL s hs
    obtain ⟨x2, h⟩ := s
    have ax2 := hs
    have gk1 := fun (x : HP) (g : G1 (.inr (x))) => gk0 x (hout1 _ g)
    show Z Y (m_Exam_leaveBlank_L2b o x1 x2 h) G1 h 2 [(0, vR ad o), (1, vI x1), (2, vI x2)] []
    unfold m_Exam_leaveBlank_L2b
    refine z_s I (s_iload_n (pc' := 3) 2 rfl D_Exam_leaveBlank_0.1.1.2.2 rfl rfl) ?_
    refine z_s I (s_bipush (pc' := 5) D_Exam_leaveBlank_0.1.2.1.1 rfl rfl) ?_
    refine z_icmp_ge (tgt := 23) (pc' := 8) I ax2 (inR_c (x := 8) rfl) D_Exam_leaveBlank_0.1.2.1.2 rfl rfl (fun c1 => ?_) (fun c1 => ?_)
    · exact z_ret (w := none) I (fun g => gk1 _ g) rfl D_Exam_leaveBlank_0.2.2.2.2 rfl
    · refine z_s I (s_aload_n (pc' := 9) 0 rfl D_Exam_leaveBlank_0.1.2.2.1 rfl rfl) ?_
      refine z_getR (pc' := 12) (eI := o + 12) I g_Exam_36 ao rfl (by omega) D_Exam_leaveBlank_0.1.2.2.2 rfl ?_
      have k2 : ok τ (3, 1) (o + 12) := r_Exam_given hw ao (by omega)
      refine z_s I (s_iload_n (pc' := 13) 1 rfl D_Exam_leaveBlank_0.2.1.1.1 rfl rfl) ?_
      refine z_aald (pc' := 14) (eI := o + x1 + 13) I 8 1 1 k2 ax1 rfl rfl rfl (by omega) D_Exam_leaveBlank_0.2.1.1.2 rfl (fun c3 => ?_)
      have k4 : ok τ (0, 8) (o + x1 + 13) := e_1 hw k2 c3 (by omega)
      refine z_s I (s_iload_n (pc' := 15) 2 rfl D_Exam_leaveBlank_0.2.1.2.1 rfl rfl) ?_
      refine z_s I (s_iconst (pc' := 16) D_Exam_leaveBlank_0.2.1.2.2 rfl) ?_
      refine z_iast (pc' := 17) (nI := 8) I k4 ax2 (inR_c (x := (-1)) rfl) rfl D_Exam_leaveBlank_0.2.2.1.1 rfl (fun c5 => ?_)
      refine z_bH (fun h6 e7 => ?_)
      refine z_s I (s_iinc (pc' := 20) (lv' := [(2, vI (w32 (x2 + 1))), (0, vR ad o), (1, vI x1)]) (n := 2) rfl D_Exam_leaveBlank_0.2.2.1.2 (by decide) rfl rfl) ?_
      refine z_s I (s_goto (tgt := 2) D_Exam_leaveBlank_0.2.2.2.1 rfl) ?_
      refine z_s I (s_lv (lv' := [(0, vR ad o), (1, vI x1), (2, vI (w32 (x2 + 1)))]) [1, 2, 0] rfl) ?_
      exact z_end (fun g => hin1_1 _ g (inR_w32 _))
  have main : Z Y (m_Exam_leaveBlank o x1 h) G0 h 0 [(0, vR ad o), (1, vI x1)] [] := by
    unfold m_Exam_leaveBlank
    refine z_s I (s_iconst (pc' := 1) D_Exam_leaveBlank_0.1.1.1 rfl) ?_
    refine z_s I (s_istore_n (pc' := 2) (lv' := [(2, vI 0), (0, vR ad o), (1, vI x1)]) D_Exam_leaveBlank_0.1.1.2.1 rfl (by decide) rfl rfl) ?_
    refine z_s I (s_lv (lv' := [(0, vR ad o), (1, vI x1), (2, vI 0)]) [1, 2, 0] rfl) ?_
    exact L2 _ (b01.R bz0)
  exact main _ hF (by rw [hG0])
set_option maxHeartbeats 4000000 in
set_option maxRecDepth 20000 in
theorem c_Exam_sits {l : Launch} {τ : TP} {o : Int} {x1 : Int} {x2 : Int} {x3 : Int} {h : HP} {h' : HP} (hw : wf τ) (ao : ok τ (4, 1) o) (ax1 : inR x1) (ax2 : inR x2) (ax3 : inR x3) (hh : hr τ h) (hF : m_Exam_sits o x1 x2 x3 h = some h') : Ctr l y_Exam_sits k_Exam_sits 4 (Option.none : Option FieldType) 0 0 τ (fun ad => [vR ad o, vI x1, vI x2, vI x3]) h none h' (True) := by
  refine ctr_of (by decide) hw hh (fun ad => Nat.le_of_ble_eq_true rfl) (fun ad K Y I hK => ?_)
  obtain ⟨G0, hG0⟩ : ∃ G : HP → Prop, G = fun x => x = h' := ⟨_, rfl⟩
  have gk0 : ∀ (x : HP), G0 x → K none x := fun x g => by
    rw [hG0] at g
    cases g
    exact hK trivial
  have main : Z Y (m_Exam_sits o x1 x2 x3 h) G0 h 0 [(0, vR ad o), (1, vI x1), (2, vI x2), (3, vI x3)] [] := by
    unfold m_Exam_sits
    refine z_s I (s_aload_n (pc' := 1) 0 rfl D_Exam_sits_0.1.1.1 rfl rfl) ?_
    refine z_getR (pc' := 4) (eI := o + 21) I g_Exam_39 ao rfl (by omega) D_Exam_sits_0.1.1.2 rfl ?_
    have k1 : ok τ (0, 8) (o + 21) := r_Exam_row hw ao (by omega)
    refine z_s I (s_iload_n (pc' := 5) 1 rfl D_Exam_sits_0.1.2.1 rfl rfl) ?_
    refine z_s I (s_iload_n (pc' := 6) 2 rfl D_Exam_sits_0.1.2.2.1 rfl rfl) ?_
    refine z_iast (pc' := 7) (nI := 8) I k1 ax1 ax2 rfl D_Exam_sits_0.1.2.2.2 rfl (fun c2 => ?_)
    refine z_bH (fun h3 e4 => ?_)
    refine z_s I (s_aload_n (pc' := 8) 0 rfl D_Exam_sits_0.2.1.1 rfl rfl) ?_
    refine z_getR (pc' := 11) (eI := o + 22) I g_Exam_42 ao rfl (by omega) D_Exam_sits_0.2.1.2.1 rfl ?_
    have k5 : ok τ (0, 8) (o + 22) := r_Exam_place hw ao (by omega)
    refine z_s I (s_iload_n (pc' := 12) 1 rfl D_Exam_sits_0.2.1.2.2 rfl rfl) ?_
    refine z_s I (s_iload_n (pc' := 13) 3 rfl D_Exam_sits_0.2.2.1 rfl rfl) ?_
    refine z_iast (pc' := 14) (nI := 8) I k5 ax1 ax3 rfl D_Exam_sits_0.2.2.2.1 rfl (fun c6 => ?_)
    refine z_bH (fun h7 e8 => ?_)
    exact z_ret (w := none) I (fun g => gk0 _ g) rfl D_Exam_sits_0.2.2.2.2 rfl
  exact main _ hF (by rw [hG0])
set_option maxHeartbeats 4000000 in
set_option maxRecDepth 20000 in
theorem c_Exam_begin {l : Launch} {τ : TP} {o : Int} {x1 : Int} {h : HP} {h' : HP} (hw : wf τ) (ao : ok τ (4, 1) o) (ax1 : inR x1) (hh : hr τ h) (hF : m_Exam_begin o x1 h = some h') : Ctr l y_Exam_begin k_Exam_begin 4 (Option.none : Option FieldType) 1 23 τ (fun ad => [vR ad o, vI x1]) h none h' (True) := by
  refine ctr_of (by decide) hw hh (fun ad => Nat.le_of_ble_eq_true rfl) (fun ad K Y I hK => ?_)
  obtain ⟨G0, hG0⟩ : ∃ G : HP → Prop, G = fun x => x = h' := ⟨_, rfl⟩
  have gk0 : ∀ (x : HP), G0 x → K none x := fun x g => by
    rw [hG0] at g
    cases g
    exact hK trivial
  have L72 : ∀ (s : Int × HP), (inR (s.1)) → Z Y (m_Exam_begin_L72 o s) G0 (s.2) 72 [(0, vR ad o), (2, vI (s.1))] [] := by
    intro s hs
    refine z_loop (G := G0) (hO := fun s : Int × HP => s.2) (lO := fun s : Int × HP => [(0, vR ad o), (2, vI (s.1))]) (Φ := fun s : Int × HP => inR (s.1)) (fun G1 hin1_1 hout1 s hs => ?_) FUEL s hs
    obtain ⟨x2, h⟩ := s
    have ax2 := hs
    have gk1 := fun (x : HP) (g : G1 (.inr (x))) => gk0 x (hout1 _ g)
    show Z Y (m_Exam_begin_L72b o x2 h) G1 h 72 [(0, vR ad o), (2, vI x2)] []
    unfold m_Exam_begin_L72b
    refine z_s I (s_iload_n (pc' := 73) 1 rfl D_Exam_begin_2.2.2.1.2 rfl rfl) ?_
    refine z_s I (s_bipush (pc' := 75) D_Exam_begin_2.2.2.2.1 rfl rfl) ?_
    refine z_icmp_ge (tgt := 96) (pc' := 78) I ax2 (inR_c (x := 8) rfl) D_Exam_begin_2.2.2.2.2 rfl rfl (fun c1 => ?_) (fun c1 => ?_)
    · exact z_ret (w := none) I (fun g => gk1 _ g) rfl D_Exam_begin_3.2.2.2.2 rfl
    · refine z_s I (s_aload_n (pc' := 79) 0 rfl D_Exam_begin_3.1.1.1 rfl rfl) ?_
      refine z_s I (s_iload_n (pc' := 80) 1 rfl D_Exam_begin_3.1.1.2 rfl rfl) ?_
      refine z_b1 (fun h4 q3 => ?_)
      refine z_callV (pc' := 83) I mv_Exam_leaveBlank ml_Exam_71 (fun ad => [vI x2]) ⟨Nat.le_of_ble_eq_true rfl, Nat.le_of_ble_eq_true rfl⟩ ao (fun hh => c_Exam_leaveBlank hw ao ax2 hh q3) rfl rfl (Nat.le_of_ble_eq_true rfl) D_Exam_begin_3.1.2.1 rfl (fun f2 => ?_)
      refine z_s I (s_aload_n (pc' := 84) 0 rfl D_Exam_begin_3.1.2.2.1 rfl rfl) ?_
      refine z_s I (s_iload_n (pc' := 85) 1 rfl D_Exam_begin_3.1.2.2.2 rfl rfl) ?_
      refine z_s I (s_iconst (pc' := 86) D_Exam_begin_3.2.1.1 rfl) ?_
      refine z_s I (s_iconst (pc' := 87) D_Exam_begin_3.2.1.2.1 rfl) ?_
      refine z_b1 (fun h7 q6 => ?_)
      refine z_callV (pc' := 90) I mv_Exam_sits ml_Exam_74 (fun ad => [vI x2, vI (-1), vI (-1)]) ⟨Nat.le_of_ble_eq_true rfl, Nat.le_of_ble_eq_true rfl⟩ ao (fun hh => c_Exam_sits hw ao ax2 (inR_c (x := (-1)) rfl) (inR_c (x := (-1)) rfl) hh q6) rfl rfl (Nat.le_of_ble_eq_true rfl) D_Exam_begin_3.2.1.2.2 rfl (fun f5 => ?_)
      refine z_s I (s_iinc (pc' := 93) (lv' := [(2, vI (w32 (x2 + 1))), (0, vR ad o)]) (n := 1) rfl D_Exam_begin_3.2.2.1 (by decide) rfl rfl) ?_
      refine z_s I (s_goto (tgt := 72) D_Exam_begin_3.2.2.2.1 rfl) ?_
      refine z_s I (s_lv (lv' := [(0, vR ad o), (2, vI (w32 (x2 + 1)))]) [1, 0] rfl) ?_
      exact z_end (fun g => hin1_1 _ g (inR_w32 _))
  have L22 : ∀ (s : Int × HP), (inR (s.1)) → Z Y (m_Exam_begin_L22 o s) G0 (s.2) 22 [(0, vR ad o), (2, vI (s.1))] [] := by
    intro s hs
    refine z_loop (G := G0) (hO := fun s : Int × HP => s.2) (lO := fun s : Int × HP => [(0, vR ad o), (2, vI (s.1))]) (Φ := fun s : Int × HP => inR (s.1)) (fun G1 hin1_1 hout1 s hs => ?_) FUEL s hs
    obtain ⟨x2, h⟩ := s
    have ax2 := hs
    have gk1 := fun (x : HP) (g : G1 (.inr (x))) => gk0 x (hout1 _ g)
    have L44 : ∀ (x2 : Int) (ax2 : inR x2) (s : Int × HP), (inR (s.1)) → Z Y (m_Exam_begin_L44 o x2 s) G1 (s.2) 44 [(0, vR ad o), (2, vI x2), (3, vI (s.1))] [] := by
      intro x2 ax2 s hs
      refine z_loop (G := G1) (hO := fun s : Int × HP => s.2) (lO := fun s : Int × HP => [(0, vR ad o), (2, vI x2), (3, vI (s.1))]) (Φ := fun s : Int × HP => inR (s.1)) (fun G2 hin2_2 hout2 s hs => ?_) FUEL s hs
      obtain ⟨x3, h⟩ := s
      have ax3 := hs
      have hin1_2 := fun (s' : Int × HP) (g : G2 (.inr (.inl s'))) => hin1_1 s' (hout2 _ g)
      have gk2 := fun (x : HP) (g : G2 (.inr (.inr (x)))) => gk1 x (hout2 _ g)
      show Z Y (m_Exam_begin_L44b o x2 x3 h) G2 h 44 [(0, vR ad o), (2, vI x2), (3, vI x3)] []
      unfold m_Exam_begin_L44b
      refine z_s I (s_iload_n (pc' := 45) 2 rfl D_Exam_begin_1.2.2.1.2 rfl rfl) ?_
      refine z_s I (s_iconst (pc' := 46) D_Exam_begin_1.2.2.2.1 rfl) ?_
      refine z_icmp_ge (tgt := 64) (pc' := 49) I ax3 (inR_c (x := 4) rfl) D_Exam_begin_1.2.2.2.2 rfl rfl (fun c8 => ?_) (fun c8 => ?_)
      · refine z_s I (s_iinc (pc' := 67) (lv' := [(2, vI (w32 (x2 + 1))), (0, vR ad o), (3, vI x3)]) (n := 1) rfl D_Exam_begin_2.2.1.1.2 (by decide) rfl rfl) ?_
        refine z_s I (s_goto (tgt := 22) D_Exam_begin_2.2.1.2.1 rfl) ?_
        refine z_s I (s_lv (lv' := [(0, vR ad o), (2, vI (w32 (x2 + 1)))]) [1, 0] rfl) ?_
        exact z_end (fun g => hin1_2 _ g (inR_w32 _))
      · refine z_s I (s_aload_n (pc' := 50) 0 rfl D_Exam_begin_2.1.1.1.1 rfl rfl) ?_
        refine z_getR (pc' := 53) (eI := o + 3) I g_Exam_33 ao rfl (by omega) D_Exam_begin_2.1.1.1.2 rfl ?_
        have k9 : ok τ (3, 0) (o + 3) := r_Exam_parts hw ao (by omega)
        refine z_s I (s_iload_n (pc' := 54) 1 rfl D_Exam_begin_2.1.1.2.1 rfl rfl) ?_
        refine z_aald (pc' := 55) (eI := o + x2 + 4) I 8 1 1 k9 ax2 rfl rfl rfl (by omega) D_Exam_begin_2.1.1.2.2 rfl (fun c10 => ?_)
        have k11 : ok τ (0, 4) (o + x2 + 4) := e_0 hw k9 c10 (by omega)
        refine z_s I (s_iload_n (pc' := 56) 2 rfl D_Exam_begin_2.1.2.1.1 rfl rfl) ?_
        refine z_s I (s_iconst (pc' := 57) D_Exam_begin_2.1.2.1.2 rfl) ?_
        refine z_iast (pc' := 58) (nI := 4) I k11 ax3 (b01.R bz1) rfl D_Exam_begin_2.1.2.2.1 rfl (fun c12 => ?_)
        refine z_bH (fun h13 e14 => ?_)
        refine z_s I (s_iinc (pc' := 61) (lv' := [(3, vI (w32 (x3 + 1))), (0, vR ad o), (2, vI x2)]) (n := 2) rfl D_Exam_begin_2.1.2.2.2 (by decide) rfl rfl) ?_
        refine z_s I (s_goto (tgt := 44) D_Exam_begin_2.2.1.1.1 rfl) ?_
        refine z_s I (s_lv (lv' := [(0, vR ad o), (2, vI x2), (3, vI (w32 (x3 + 1)))]) [1, 2, 0] rfl) ?_
        exact z_end (fun g => hin2_2 _ g (inR_w32 _))
    show Z Y (m_Exam_begin_L22b o x2 h) G1 h 22 [(0, vR ad o), (2, vI x2)] []
    unfold m_Exam_begin_L22b
    refine z_s I (s_iload_n (pc' := 23) 1 rfl D_Exam_begin_0.2.2.2.1 rfl rfl) ?_
    refine z_s I (s_bipush (pc' := 25) D_Exam_begin_0.2.2.2.2 rfl rfl) ?_
    refine z_icmp_ge (tgt := 70) (pc' := 28) I ax2 (inR_c (x := 8) rfl) D_Exam_begin_1.1.1.1.1 rfl rfl (fun c15 => ?_) (fun c15 => ?_)
    · refine z_s I (s_iconst (pc' := 71) D_Exam_begin_2.2.1.2.2 rfl) ?_
      refine z_s I (s_istore_n (pc' := 72) (lv' := [(2, vI 0), (0, vR ad o)]) D_Exam_begin_2.2.2.1.1 rfl (by decide) rfl rfl) ?_
      refine z_map _ (fun x g => hout1 x g) ?_
      refine z_s I (s_lv (lv' := [(0, vR ad o), (2, vI 0)]) [1, 0] rfl) ?_
      exact L72 _ (b01.R bz0)
    · refine z_s I (s_aload_n (pc' := 29) 0 rfl D_Exam_begin_1.1.1.1.2 rfl rfl) ?_
      refine z_getR (pc' := 32) (eI := o + 1) I g_Exam_24 ao rfl (by omega) D_Exam_begin_1.1.1.2.1 rfl ?_
      have k16 : ok τ (0, 8) (o + 1) := r_Exam_key hw ao (by omega)
      refine z_s I (s_iload_n (pc' := 33) 1 rfl D_Exam_begin_1.1.1.2.2 rfl rfl) ?_
      refine z_s I (s_iconst (pc' := 34) D_Exam_begin_1.1.2.1.1 rfl) ?_
      refine z_iast (pc' := 35) (nI := 8) I k16 ax2 (b01.R bz0) rfl D_Exam_begin_1.1.2.1.2 rfl (fun c17 => ?_)
      refine z_bH (fun h18 e19 => ?_)
      refine z_s I (s_aload_n (pc' := 36) 0 rfl D_Exam_begin_1.1.2.2.1 rfl rfl) ?_
      refine z_getR (pc' := 39) (eI := o + 2) I g_Exam_28 ao rfl (by omega) D_Exam_begin_1.1.2.2.2 rfl ?_
      have k20 : ok τ (0, 8) (o + 2) := r_Exam_kind hw ao (by omega)
      refine z_s I (s_iload_n (pc' := 40) 1 rfl D_Exam_begin_1.2.1.1.1 rfl rfl) ?_
      refine z_s I (s_iconst (pc' := 41) D_Exam_begin_1.2.1.1.2 rfl) ?_
      refine z_iast (pc' := 42) (nI := 8) I k20 ax2 (b01.R bz0) rfl D_Exam_begin_1.2.1.2.1 rfl (fun c21 => ?_)
      refine z_bH (fun h22 e23 => ?_)
      refine z_s I (s_iconst (pc' := 43) D_Exam_begin_1.2.1.2.2 rfl) ?_
      refine z_s I (s_istore_n (pc' := 44) (lv' := [(3, vI 0), (0, vR ad o), (2, vI x2)]) D_Exam_begin_1.2.2.1.1 rfl (by decide) rfl rfl) ?_
      refine z_s I (s_lv (lv' := [(0, vR ad o), (2, vI x2), (3, vI 0)]) [1, 2, 0] rfl) ?_
      exact L44 _ ax2 _ (b01.R bz0)
  have main : Z Y (m_Exam_begin o x1 h) G0 h 0 [(0, vR ad o), (1, vI x1)] [] := by
    unfold m_Exam_begin
    refine z_s I (s_aload_n (pc' := 1) 0 rfl D_Exam_begin_0.1.1.1.1 rfl rfl) ?_
    refine z_s I (s_iload_n (pc' := 2) 1 rfl D_Exam_begin_0.1.1.1.2 rfl rfl) ?_
    refine z_putI (pc' := 5) (jI := 0) I p_Exam_9 ao rfl rfl ax1 D_Exam_begin_0.1.1.2.1 rfl ?_
    refine z_bH (fun h24 e25 => ?_)
    refine z_s I (s_aload_n (pc' := 6) 0 rfl D_Exam_begin_0.1.1.2.2 rfl rfl) ?_
    refine z_s I (s_iconst (pc' := 7) D_Exam_begin_0.1.2.1.1 rfl) ?_
    refine z_putI (pc' := 10) (jI := 1) I p_Exam_15 ao rfl rfl (b01.R bz0) D_Exam_begin_0.1.2.1.2 rfl ?_
    refine z_bH (fun h26 e27 => ?_)
    refine z_s I (s_aload_n (pc' := 11) 0 rfl D_Exam_begin_0.1.2.2.1 rfl rfl) ?_
    refine z_s I (s_iconst (pc' := 12) D_Exam_begin_0.1.2.2.2 rfl) ?_
    refine z_putI (pc' := 15) (jI := 2) I p_Exam_18 ao rfl rfl (b01.R bz0) D_Exam_begin_0.2.1.1.1 rfl ?_
    refine z_bH (fun h28 e29 => ?_)
    refine z_s I (s_aload_n (pc' := 16) 0 rfl D_Exam_begin_0.2.1.1.2 rfl rfl) ?_
    refine z_s I (s_iconst (pc' := 17) D_Exam_begin_0.2.1.2.1 rfl) ?_
    refine z_putI (pc' := 20) (jI := 3) I p_Exam_21 ao rfl rfl (b01.R bz0) D_Exam_begin_0.2.1.2.2 rfl ?_
    refine z_bH (fun h30 e31 => ?_)
    refine z_s I (s_iconst (pc' := 21) D_Exam_begin_0.2.2.1.1 rfl) ?_
    refine z_s I (s_istore_n (pc' := 22) (lv' := [(2, vI 0), (0, vR ad o), (1, vI x1)]) D_Exam_begin_0.2.2.1.2 rfl (by decide) rfl rfl) ?_
    refine z_s I (s_lv (lv' := [(0, vR ad o), (2, vI 0)]) [1, 0] rfl) ?_
    exact L22 _ (b01.R bz0)
  exact main _ hF (by rw [hG0])
set_option maxHeartbeats 4000000 in
set_option maxRecDepth 20000 in
theorem c_Cb_items {l : Launch} {τ : TP} {o : Int} {x1 : Int} {h : HP} {r : Int} {h' : HP} (hw : wf τ) (ao : ok τ (4, 9) o) (ax1 : inR x1) (hh : hr τ h) (hF : m_Cb_items o x1 h = some (r, h')) : Ctr l y_Cb_items k_Cb_items 3 (Option.some FieldType.int) 2 46 τ (fun ad => [vR ad o, vI x1]) h (some (vI r)) h' (inR r) := by
  refine ctr_of (by decide) hw hh (fun ad => Nat.le_of_ble_eq_true rfl) (fun ad K Y I hK => ?_)
  obtain ⟨G0, hG0⟩ : ∃ G : Int × HP → Prop, G = fun x => x = (r, h') := ⟨_, rfl⟩
  have gk0 : ∀ (x : Int) (y : HP), G0 (x, y) → inR x → K (some (vI x)) y := fun x y g q => by
    rw [hG0] at g
    cases g
    exact hK q
  have main : Z Y (m_Cb_items o x1 h) G0 h 0 [(0, vR ad o), (1, vI x1)] [] := by
    unfold m_Cb_items
    refine z_s I (s_iload_n (pc' := 1) 1 rfl D_Cb_items_0.1.1.1.1 rfl rfl) ?_
    refine z_s I (s_iconst (pc' := 2) D_Cb_items_0.1.1.1.2 rfl) ?_
    refine z_icmp_lt (tgt := 11) (pc' := 5) I ax1 (b01.R bz1) D_Cb_items_0.1.1.2.1 rfl rfl (fun c1 => ?_) (fun c1 => ?_)
    · refine z_s I (s_bipush (pc' := 13) D_Cb_items_0.1.2.2.1 rfl rfl) ?_
      exact z_ret (w := some (vI (-2))) I (fun g => gk0 _ _ g (inR_c (x := (-2)) rfl)) ⟨_, rfl⟩ D_Cb_items_0.1.2.2.2 rfl
    · refine z_s I (s_iload_n (pc' := 6) 1 rfl D_Cb_items_0.1.1.2.2 rfl rfl) ?_
      refine z_s I (s_bipush (pc' := 8) D_Cb_items_0.1.2.1.1 rfl rfl) ?_
      refine z_icmp_le (tgt := 14) (pc' := 11) I ax1 (inR_c (x := 8) rfl) D_Cb_items_0.1.2.1.2 rfl rfl (fun c2 => ?_) (fun c2 => ?_)
      · refine z_s I (s_aload_n (pc' := 15) 0 rfl D_Cb_items_0.2.1.1.1 rfl rfl) ?_
        refine z_getR (pc' := 18) (eI := o + 1) I g_Cb_12 ao rfl (by omega) D_Cb_items_0.2.1.1.2 rfl ?_
        have k3 : ok τ (4, 1) (o + 1) := r_Cb_now hw ao (by omega)
        refine z_getI (pc' := 21) (jI := 0) I g_Cb_87 k3 rfl rfl D_Cb_items_0.2.1.2.1 rfl (fun f4 => ?_)
        refine z_bI f4 (fun v5 e6 f7 => ?_)
        refine z_s I (s_istore_n (pc' := 22) (lv' := [(2, vI v5), (0, vR ad o), (1, vI x1)]) D_Cb_items_0.2.1.2.2 rfl (by decide) rfl rfl) ?_
        refine z_s I (s_aload_n (pc' := 23) 1 rfl D_Cb_items_0.2.2.1.1 rfl rfl) ?_
        refine z_getR (pc' := 26) (eI := o + 1) I g_Cb_12 ao rfl (by omega) D_Cb_items_0.2.2.1.2 rfl ?_
        have k8 : ok τ (4, 1) (o + 1) := r_Cb_now hw ao (by omega)
        refine z_s I (s_iload_n (pc' := 27) 2 rfl D_Cb_items_0.2.2.2.1 rfl rfl) ?_
        refine z_b1 (fun h11 q10 => ?_)
        refine z_callV (pc' := 30) I mv_Exam_begin ml_Cb_91 (fun ad => [vI x1]) ⟨Nat.le_of_ble_eq_true rfl, Nat.le_of_ble_eq_true rfl⟩ k8 (fun hh => c_Exam_begin hw k8 ax1 hh q10) rfl rfl (Nat.le_of_ble_eq_true rfl) D_Cb_items_0.2.2.2.2 rfl (fun f9 => ?_)
        refine z_s I (s_iload_n (pc' := 31) 0 rfl D_Cb_items_1.1 rfl rfl) ?_
        exact z_ret (w := some (vI v5)) I (fun g => gk0 _ _ g f7) ⟨_, rfl⟩ D_Cb_items_1.2 rfl
      · refine z_s I (s_bipush (pc' := 13) D_Cb_items_0.1.2.2.1 rfl rfl) ?_
        exact z_ret (w := some (vI (-2))) I (fun g => gk0 _ _ g (inR_c (x := (-2)) rfl)) ⟨_, rfl⟩ D_Cb_items_0.1.2.2.2 rfl
  exact main _ hF (by rw [hG0])
set_option maxHeartbeats 4000000 in
set_option maxRecDepth 20000 in
theorem c_Exam_hasItem {l : Launch} {τ : TP} {o : Int} {x1 : Int} {h : HP} {r : Int} (hw : wf τ) (ao : ok τ (4, 1) o) (ax1 : inR x1) (hh : hr τ h) (hF : m_Exam_hasItem o x1 h = some r) : Ctr l y_Exam_hasItem k_Exam_hasItem 2 (Option.some FieldType.boolean) 0 0 τ (fun ad => [vR ad o, vI x1]) h (some (vI r)) h (b01 r) := by
  refine ctr_of (by decide) hw hh (fun ad => Nat.le_of_ble_eq_true rfl) (fun ad K Y I hK => ?_)
  obtain ⟨G0, hG0⟩ : ∃ G : Int → Prop, G = fun x => x = r := ⟨_, rfl⟩
  have gk0 : ∀ (x : Int), G0 x → b01 x → K (some (vI x)) h := fun x g q => by
    rw [hG0] at g
    cases g
    exact hK q
  have main : Z Y (m_Exam_hasItem o x1 h) G0 h 0 [(0, vR ad o), (1, vI x1)] [] := by
    unfold m_Exam_hasItem
    refine z_s I (s_iload_n (pc' := 1) 1 rfl D_Exam_hasItem_0.1.1.1 rfl rfl) ?_
    refine z_if_lt (tgt := 16) (pc' := 4) I ax1 D_Exam_hasItem_0.1.1.2 rfl rfl (fun c1 => ?_) (fun c1 => ?_)
    · refine z_s I (s_iconst (pc' := 17) D_Exam_hasItem_0.2.2.2.1 rfl) ?_
      exact z_ret (w := some (vI 0)) I (fun g => gk0 _ g bz0) ⟨_, bz0, rfl⟩ D_Exam_hasItem_0.2.2.2.2 rfl
    · refine z_s I (s_iload_n (pc' := 5) 1 rfl D_Exam_hasItem_0.1.2.1 rfl rfl) ?_
      refine z_s I (s_aload_n (pc' := 6) 0 rfl D_Exam_hasItem_0.1.2.2.1 rfl rfl) ?_
      refine z_getI (pc' := 9) (jI := 0) I g_Exam_9 ao rfl rfl D_Exam_hasItem_0.1.2.2.2 rfl (fun f2 => ?_)
      refine z_icmp_ge (tgt := 16) (pc' := 12) I ax1 f2 D_Exam_hasItem_0.2.1.1 rfl rfl (fun c3 => ?_) (fun c3 => ?_)
      · refine z_s I (s_iconst (pc' := 17) D_Exam_hasItem_0.2.2.2.1 rfl) ?_
        exact z_ret (w := some (vI 0)) I (fun g => gk0 _ g bz0) ⟨_, bz0, rfl⟩ D_Exam_hasItem_0.2.2.2.2 rfl
      · refine z_s I (s_iconst (pc' := 13) D_Exam_hasItem_0.2.1.2 rfl) ?_
        refine z_s I (s_goto (tgt := 17) D_Exam_hasItem_0.2.2.1 rfl) ?_
        exact z_ret (w := some (vI 1)) I (fun g => gk0 _ g bz1) ⟨_, bz1, rfl⟩ D_Exam_hasItem_0.2.2.2.2 rfl
  exact main _ hF (by rw [hG0])
set_option maxHeartbeats 4000000 in
set_option maxRecDepth 20000 in
theorem c_Cb_isAnswer {l : Launch} {τ : TP} {x0 : Int} {h : HP} {r : Int} (hw : wf τ) (ax0 : inR x0) (hh : hr τ h) (hF : m_Cb_isAnswer x0 h = some r) : Ctr l y_Cb_isAnswer k_Cb_isAnswer 1 (Option.some FieldType.boolean) 0 0 τ (fun ad => [vI x0]) h (some (vI r)) h (b01 r) := by
  refine ctr_of (by decide) hw hh (fun ad => Nat.le_of_ble_eq_true rfl) (fun ad K Y I hK => ?_)
  obtain ⟨G0, hG0⟩ : ∃ G : Int → Prop, G = fun x => x = r := ⟨_, rfl⟩
  have gk0 : ∀ (x : Int), G0 x → b01 x → K (some (vI x)) h := fun x g q => by
    rw [hG0] at g
    cases g
    exact hK q
  have main : Z Y (m_Cb_isAnswer x0 h) G0 h 0 [(0, vI x0)] [] := by
    unfold m_Cb_isAnswer
    refine z_s I (s_iload_n (pc' := 1) 0 rfl D_Cb_isAnswer_0.1.1.1 rfl rfl) ?_
    refine z_if_lt (tgt := 13) (pc' := 4) I ax0 D_Cb_isAnswer_0.1.1.2 rfl rfl (fun c1 => ?_) (fun c1 => ?_)
    · refine z_s I (s_iconst (pc' := 14) D_Cb_isAnswer_0.2.2.2.1 rfl) ?_
      exact z_ret (w := some (vI 0)) I (fun g => gk0 _ g bz0) ⟨_, bz0, rfl⟩ D_Cb_isAnswer_0.2.2.2.2 rfl
    · refine z_s I (s_iload_n (pc' := 5) 0 rfl D_Cb_isAnswer_0.1.2.1 rfl rfl) ?_
      refine z_s I (s_iconst (pc' := 6) D_Cb_isAnswer_0.1.2.2 rfl) ?_
      refine z_icmp_ge (tgt := 13) (pc' := 9) I ax0 (inR_c (x := 4) rfl) D_Cb_isAnswer_0.2.1.1 rfl rfl (fun c2 => ?_) (fun c2 => ?_)
      · refine z_s I (s_iconst (pc' := 14) D_Cb_isAnswer_0.2.2.2.1 rfl) ?_
        exact z_ret (w := some (vI 0)) I (fun g => gk0 _ g bz0) ⟨_, bz0, rfl⟩ D_Cb_isAnswer_0.2.2.2.2 rfl
      · refine z_s I (s_iconst (pc' := 10) D_Cb_isAnswer_0.2.1.2 rfl) ?_
        refine z_s I (s_goto (tgt := 14) D_Cb_isAnswer_0.2.2.1 rfl) ?_
        exact z_ret (w := some (vI 1)) I (fun g => gk0 _ g bz1) ⟨_, bz1, rfl⟩ D_Cb_isAnswer_0.2.2.2.2 rfl
  exact main _ hF (by rw [hG0])
set_option maxHeartbeats 4000000 in
set_option maxRecDepth 20000 in
theorem c_Cb_right {l : Launch} {τ : TP} {o : Int} {x1 : Int} {x2 : Int} {h : HP} {r : Int} {h' : HP} (hw : wf τ) (ao : ok τ (4, 9) o) (ax1 : inR x1) (ax2 : inR x2) (hh : hr τ h) (hF : m_Cb_right o x1 x2 h = some (r, h')) : Ctr l y_Cb_right k_Cb_right 4 (Option.some FieldType.int) 1 21 τ (fun ad => [vR ad o, vI x1, vI x2]) h (some (vI r)) h' (inR r) := by
  refine ctr_of (by decide) hw hh (fun ad => Nat.le_of_ble_eq_true rfl) (fun ad K Y I hK => ?_)
  obtain ⟨G0, hG0⟩ : ∃ G : Int × HP → Prop, G = fun x => x = (r, h') := ⟨_, rfl⟩
  have gk0 : ∀ (x : Int) (y : HP), G0 (x, y) → inR x → K (some (vI x)) y := fun x y g q => by
    rw [hG0] at g
    cases g
    exact hK q
  have main : Z Y (m_Cb_right o x1 x2 h) G0 h 0 [(0, vR ad o), (1, vI x1), (2, vI x2)] [] := by
    unfold m_Cb_right
    refine z_s I (s_aload_n (pc' := 1) 0 rfl D_Cb_right_0.1.1.1.1 rfl rfl) ?_
    refine z_getR (pc' := 4) (eI := o + 1) I g_Cb_12 ao rfl (by omega) D_Cb_right_0.1.1.1.2 rfl ?_
    have k1 : ok τ (4, 1) (o + 1) := r_Cb_now hw ao (by omega)
    refine z_s I (s_iload_n (pc' := 5) 1 rfl D_Cb_right_0.1.1.2.1 rfl rfl) ?_
    refine z_b1 (fun r4 q3 => ?_)
    refine z_callV (pc' := 8) I mv_Exam_hasItem ml_Cb_95 (fun ad => [vI x1]) ⟨Nat.le_of_ble_eq_true rfl, Nat.le_of_ble_eq_true rfl⟩ k1 (fun hh => c_Exam_hasItem hw k1 ax1 hh q3) rfl rfl (Nat.le_of_ble_eq_true rfl) D_Cb_right_0.1.1.2.2 rfl (fun f2 => ?_)
    refine z_if_ne (tgt := 13) (pc' := 11) I (b01.R f2) D_Cb_right_0.1.2.1.1 rfl rfl (fun c5 => ?_) (fun c5 => ?_)
    · refine z_s I (s_iload_n (pc' := 14) 2 rfl D_Cb_right_0.1.2.2.2 rfl rfl) ?_
      refine z_b1 (fun r8 q7 => ?_)
      refine z_callS (pc' := 17) I mv_Cb_isAnswer ml_Cb_99 (fun ad => [vI x2]) ⟨Nat.le_of_ble_eq_true rfl, Nat.le_of_ble_eq_true rfl⟩ (fun hh => c_Cb_isAnswer hw ax2 hh q7) rfl rfl (Nat.le_of_ble_eq_true rfl) D_Cb_right_0.2.1.1.1 rfl (fun f6 => ?_)
      refine z_if_ne (tgt := 23) (pc' := 20) I (b01.R f6) D_Cb_right_0.2.1.1.2 rfl rfl (fun c9 => ?_) (fun c9 => ?_)
      · refine z_s I (s_aload_n (pc' := 24) 0 rfl D_Cb_right_0.2.2.1.1 rfl rfl) ?_
        refine z_getR (pc' := 27) (eI := o + 1) I g_Cb_12 ao rfl (by omega) D_Cb_right_0.2.2.1.2 rfl ?_
        have k10 : ok τ (4, 1) (o + 1) := r_Cb_now hw ao (by omega)
        refine z_getR (pc' := 30) (eI := o + 2) I g_Cb_102 k10 rfl (by omega) D_Cb_right_0.2.2.2.1 rfl ?_
        have k11 : ok τ (0, 8) (o + 2) := r_Exam_key hw k10 (by omega)
        refine z_s I (s_iload_n (pc' := 31) 1 rfl D_Cb_right_0.2.2.2.2 rfl rfl) ?_
        refine z_iald (pc' := 32) (nI := 8) I k11 ax1 rfl D_Cb_right_1.1.1.1 rfl (fun c12 f13 => ?_)
        refine z_bI f13 (fun v14 e15 f16 => ?_)
        refine z_s I (s_istore_n (pc' := 33) (lv' := [(3, vI v14), (0, vR ad o), (1, vI x1), (2, vI x2)]) D_Cb_right_1.1.1.2 rfl (by decide) rfl rfl) ?_
        refine z_s I (s_aload_n (pc' := 34) 1 rfl D_Cb_right_1.1.2.1 rfl rfl) ?_
        refine z_getR (pc' := 37) (eI := o + 1) I g_Cb_12 ao rfl (by omega) D_Cb_right_1.1.2.2.1 rfl ?_
        have k17 : ok τ (4, 1) (o + 1) := r_Cb_now hw ao (by omega)
        refine z_getR (pc' := 40) (eI := o + 2) I g_Cb_102 k17 rfl (by omega) D_Cb_right_1.1.2.2.2 rfl ?_
        have k18 : ok τ (0, 8) (o + 2) := r_Exam_key hw k17 (by omega)
        refine z_s I (s_iload_n (pc' := 41) 2 rfl D_Cb_right_1.2.1.1 rfl rfl) ?_
        refine z_s I (s_iload_n (pc' := 42) 3 rfl D_Cb_right_1.2.1.2 rfl rfl) ?_
        refine z_iast (pc' := 43) (nI := 8) I k18 ax1 ax2 rfl D_Cb_right_1.2.2.1 rfl (fun c19 => ?_)
        refine z_bH (fun h20 e21 => ?_)
        refine z_s I (s_iload_n (pc' := 44) 0 rfl D_Cb_right_1.2.2.2.1 rfl rfl) ?_
        exact z_ret (w := some (vI v14)) I (fun g => gk0 _ _ g f16) ⟨_, rfl⟩ D_Cb_right_1.2.2.2.2 rfl
      · refine z_s I (s_bipush (pc' := 22) D_Cb_right_0.2.1.2.1 rfl rfl) ?_
        exact z_ret (w := some (vI (-2))) I (fun g => gk0 _ _ g (inR_c (x := (-2)) rfl)) ⟨_, rfl⟩ D_Cb_right_0.2.1.2.2 rfl
    · refine z_s I (s_iconst (pc' := 12) D_Cb_right_0.1.2.1.2 rfl) ?_
      exact z_ret (w := some (vI (-1))) I (fun g => gk0 _ _ g (inR_c (x := (-1)) rfl)) ⟨_, rfl⟩ D_Cb_right_0.1.2.2.1 rfl
  exact main _ hF (by rw [hG0])
set_option maxHeartbeats 4000000 in
set_option maxRecDepth 20000 in
theorem c_Cb_isKind {l : Launch} {τ : TP} {x0 : Int} {h : HP} {r : Int} (hw : wf τ) (ax0 : inR x0) (hh : hr τ h) (hF : m_Cb_isKind x0 h = some r) : Ctr l y_Cb_isKind k_Cb_isKind 1 (Option.some FieldType.boolean) 0 0 τ (fun ad => [vI x0]) h (some (vI r)) h (b01 r) := by
  refine ctr_of (by decide) hw hh (fun ad => Nat.le_of_ble_eq_true rfl) (fun ad K Y I hK => ?_)
  obtain ⟨G0, hG0⟩ : ∃ G : Int → Prop, G = fun x => x = r := ⟨_, rfl⟩
  have gk0 : ∀ (x : Int), G0 x → b01 x → K (some (vI x)) h := fun x g q => by
    rw [hG0] at g
    cases g
    exact hK q
  have main : Z Y (m_Cb_isKind x0 h) G0 h 0 [(0, vI x0)] [] := by
    unfold m_Cb_isKind
    refine z_s I (s_iload_n (pc' := 1) 0 rfl D_Cb_isKind_0.1.1.1 rfl rfl) ?_
    refine z_if_lt (tgt := 13) (pc' := 4) I ax0 D_Cb_isKind_0.1.1.2 rfl rfl (fun c1 => ?_) (fun c1 => ?_)
    · refine z_s I (s_iconst (pc' := 14) D_Cb_isKind_0.2.2.2.1 rfl) ?_
      exact z_ret (w := some (vI 0)) I (fun g => gk0 _ g bz0) ⟨_, bz0, rfl⟩ D_Cb_isKind_0.2.2.2.2 rfl
    · refine z_s I (s_iload_n (pc' := 5) 0 rfl D_Cb_isKind_0.1.2.1 rfl rfl) ?_
      refine z_s I (s_iconst (pc' := 6) D_Cb_isKind_0.1.2.2 rfl) ?_
      refine z_icmp_gt (tgt := 13) (pc' := 9) I ax0 (inR_c (x := 3) rfl) D_Cb_isKind_0.2.1.1 rfl rfl (fun c2 => ?_) (fun c2 => ?_)
      · refine z_s I (s_iconst (pc' := 14) D_Cb_isKind_0.2.2.2.1 rfl) ?_
        exact z_ret (w := some (vI 0)) I (fun g => gk0 _ g bz0) ⟨_, bz0, rfl⟩ D_Cb_isKind_0.2.2.2.2 rfl
      · refine z_s I (s_iconst (pc' := 10) D_Cb_isKind_0.2.1.2 rfl) ?_
        refine z_s I (s_goto (tgt := 14) D_Cb_isKind_0.2.2.1 rfl) ?_
        exact z_ret (w := some (vI 1)) I (fun g => gk0 _ g bz1) ⟨_, bz1, rfl⟩ D_Cb_isKind_0.2.2.2.2 rfl
  exact main _ hF (by rw [hG0])
set_option maxHeartbeats 4000000 in
set_option maxRecDepth 20000 in
theorem c_Cb_model {l : Launch} {τ : TP} {o : Int} {x1 : Int} {x2 : Int} {h : HP} {r : Int} {h' : HP} (hw : wf τ) (ao : ok τ (4, 9) o) (ax1 : inR x1) (ax2 : inR x2) (hh : hr τ h) (hF : m_Cb_model o x1 x2 h = some (r, h')) : Ctr l y_Cb_model k_Cb_model 4 (Option.some FieldType.int) 1 21 τ (fun ad => [vR ad o, vI x1, vI x2]) h (some (vI r)) h' (inR r) := by
  refine ctr_of (by decide) hw hh (fun ad => Nat.le_of_ble_eq_true rfl) (fun ad K Y I hK => ?_)
  obtain ⟨G0, hG0⟩ : ∃ G : Int × HP → Prop, G = fun x => x = (r, h') := ⟨_, rfl⟩
  have gk0 : ∀ (x : Int) (y : HP), G0 (x, y) → inR x → K (some (vI x)) y := fun x y g q => by
    rw [hG0] at g
    cases g
    exact hK q
  have main : Z Y (m_Cb_model o x1 x2 h) G0 h 0 [(0, vR ad o), (1, vI x1), (2, vI x2)] [] := by
    unfold m_Cb_model
    refine z_s I (s_aload_n (pc' := 1) 0 rfl D_Cb_model_0.1.1.1.1 rfl rfl) ?_
    refine z_getR (pc' := 4) (eI := o + 1) I g_Cb_12 ao rfl (by omega) D_Cb_model_0.1.1.1.2 rfl ?_
    have k1 : ok τ (4, 1) (o + 1) := r_Cb_now hw ao (by omega)
    refine z_s I (s_iload_n (pc' := 5) 1 rfl D_Cb_model_0.1.1.2.1 rfl rfl) ?_
    refine z_b1 (fun r4 q3 => ?_)
    refine z_callV (pc' := 8) I mv_Exam_hasItem ml_Cb_95 (fun ad => [vI x1]) ⟨Nat.le_of_ble_eq_true rfl, Nat.le_of_ble_eq_true rfl⟩ k1 (fun hh => c_Exam_hasItem hw k1 ax1 hh q3) rfl rfl (Nat.le_of_ble_eq_true rfl) D_Cb_model_0.1.1.2.2 rfl (fun f2 => ?_)
    refine z_if_ne (tgt := 13) (pc' := 11) I (b01.R f2) D_Cb_model_0.1.2.1.1 rfl rfl (fun c5 => ?_) (fun c5 => ?_)
    · refine z_s I (s_iload_n (pc' := 14) 2 rfl D_Cb_model_0.1.2.2.2 rfl rfl) ?_
      refine z_b1 (fun r8 q7 => ?_)
      refine z_callS (pc' := 17) I mv_Cb_isKind ml_Cb_106 (fun ad => [vI x2]) ⟨Nat.le_of_ble_eq_true rfl, Nat.le_of_ble_eq_true rfl⟩ (fun hh => c_Cb_isKind hw ax2 hh q7) rfl rfl (Nat.le_of_ble_eq_true rfl) D_Cb_model_0.2.1.1.1 rfl (fun f6 => ?_)
      refine z_if_ne (tgt := 23) (pc' := 20) I (b01.R f6) D_Cb_model_0.2.1.1.2 rfl rfl (fun c9 => ?_) (fun c9 => ?_)
      · refine z_s I (s_aload_n (pc' := 24) 0 rfl D_Cb_model_0.2.2.1.1 rfl rfl) ?_
        refine z_getR (pc' := 27) (eI := o + 1) I g_Cb_12 ao rfl (by omega) D_Cb_model_0.2.2.1.2 rfl ?_
        have k10 : ok τ (4, 1) (o + 1) := r_Cb_now hw ao (by omega)
        refine z_getR (pc' := 30) (eI := o + 3) I g_Cb_109 k10 rfl (by omega) D_Cb_model_0.2.2.2.1 rfl ?_
        have k11 : ok τ (0, 8) (o + 3) := r_Exam_kind hw k10 (by omega)
        refine z_s I (s_iload_n (pc' := 31) 1 rfl D_Cb_model_0.2.2.2.2 rfl rfl) ?_
        refine z_iald (pc' := 32) (nI := 8) I k11 ax1 rfl D_Cb_model_1.1.1.1 rfl (fun c12 f13 => ?_)
        refine z_bI f13 (fun v14 e15 f16 => ?_)
        refine z_s I (s_istore_n (pc' := 33) (lv' := [(3, vI v14), (0, vR ad o), (1, vI x1), (2, vI x2)]) D_Cb_model_1.1.1.2 rfl (by decide) rfl rfl) ?_
        refine z_s I (s_aload_n (pc' := 34) 1 rfl D_Cb_model_1.1.2.1 rfl rfl) ?_
        refine z_getR (pc' := 37) (eI := o + 1) I g_Cb_12 ao rfl (by omega) D_Cb_model_1.1.2.2.1 rfl ?_
        have k17 : ok τ (4, 1) (o + 1) := r_Cb_now hw ao (by omega)
        refine z_getR (pc' := 40) (eI := o + 3) I g_Cb_109 k17 rfl (by omega) D_Cb_model_1.1.2.2.2 rfl ?_
        have k18 : ok τ (0, 8) (o + 3) := r_Exam_kind hw k17 (by omega)
        refine z_s I (s_iload_n (pc' := 41) 2 rfl D_Cb_model_1.2.1.1 rfl rfl) ?_
        refine z_s I (s_iload_n (pc' := 42) 3 rfl D_Cb_model_1.2.1.2 rfl rfl) ?_
        refine z_iast (pc' := 43) (nI := 8) I k18 ax1 ax2 rfl D_Cb_model_1.2.2.1 rfl (fun c19 => ?_)
        refine z_bH (fun h20 e21 => ?_)
        refine z_s I (s_iload_n (pc' := 44) 0 rfl D_Cb_model_1.2.2.2.1 rfl rfl) ?_
        exact z_ret (w := some (vI v14)) I (fun g => gk0 _ _ g f16) ⟨_, rfl⟩ D_Cb_model_1.2.2.2.2 rfl
      · refine z_s I (s_bipush (pc' := 22) D_Cb_model_0.2.1.2.1 rfl rfl) ?_
        exact z_ret (w := some (vI (-2))) I (fun g => gk0 _ _ g (inR_c (x := (-2)) rfl)) ⟨_, rfl⟩ D_Cb_model_0.2.1.2.2 rfl
    · refine z_s I (s_iconst (pc' := 12) D_Cb_model_0.1.2.1.2 rfl) ?_
      exact z_ret (w := some (vI (-1))) I (fun g => gk0 _ _ g (inR_c (x := (-1)) rfl)) ⟨_, rfl⟩ D_Cb_model_0.1.2.2.1 rfl
  exact main _ hF (by rw [hG0])
set_option maxHeartbeats 4000000 in
set_option maxRecDepth 20000 in
theorem c_Cb_part {l : Launch} {τ : TP} {o : Int} {x1 : Int} {x2 : Int} {x3 : Int} {h : HP} {r : Int} {h' : HP} (hw : wf τ) (ao : ok τ (4, 9) o) (ax1 : inR x1) (ax2 : inR x2) (ax3 : inR x3) (hh : hr τ h) (hF : m_Cb_part o x1 x2 x3 h = some (r, h')) : Ctr l y_Cb_part k_Cb_part 5 (Option.some FieldType.int) 1 21 τ (fun ad => [vR ad o, vI x1, vI x2, vI x3]) h (some (vI r)) h' (inR r) := by
  refine ctr_of (by decide) hw hh (fun ad => Nat.le_of_ble_eq_true rfl) (fun ad K Y I hK => ?_)
  obtain ⟨G0, hG0⟩ : ∃ G : Int × HP → Prop, G = fun x => x = (r, h') := ⟨_, rfl⟩
  have gk0 : ∀ (x : Int) (y : HP), G0 (x, y) → inR x → K (some (vI x)) y := fun x y g q => by
    rw [hG0] at g
    cases g
    exact hK q
  have main : Z Y (m_Cb_part o x1 x2 x3 h) G0 h 0 [(0, vR ad o), (1, vI x1), (2, vI x2), (3, vI x3)] [] := by
    unfold m_Cb_part
    refine z_s I (s_aload_n (pc' := 1) 0 rfl D_Cb_part_0.1.1.1.1 rfl rfl) ?_
    refine z_getR (pc' := 4) (eI := o + 1) I g_Cb_12 ao rfl (by omega) D_Cb_part_0.1.1.1.2 rfl ?_
    have k1 : ok τ (4, 1) (o + 1) := r_Cb_now hw ao (by omega)
    refine z_s I (s_iload_n (pc' := 5) 1 rfl D_Cb_part_0.1.1.2.1 rfl rfl) ?_
    refine z_b1 (fun r4 q3 => ?_)
    refine z_callV (pc' := 8) I mv_Exam_hasItem ml_Cb_95 (fun ad => [vI x1]) ⟨Nat.le_of_ble_eq_true rfl, Nat.le_of_ble_eq_true rfl⟩ k1 (fun hh => c_Exam_hasItem hw k1 ax1 hh q3) rfl rfl (Nat.le_of_ble_eq_true rfl) D_Cb_part_0.1.1.2.2 rfl (fun f2 => ?_)
    refine z_if_eq (tgt := 18) (pc' := 11) I (b01.R f2) D_Cb_part_0.1.2.1.1 rfl rfl (fun c5 => ?_) (fun c5 => ?_)
    · refine z_s I (s_iconst (pc' := 19) D_Cb_part_0.2.1.1.1 rfl) ?_
      exact z_ret (w := some (vI (-1))) I (fun g => gk0 _ _ g (inR_c (x := (-1)) rfl)) ⟨_, rfl⟩ D_Cb_part_0.2.1.1.2 rfl
    · refine z_s I (s_iload_n (pc' := 12) 2 rfl D_Cb_part_0.1.2.1.2 rfl rfl) ?_
      refine z_b1 (fun r8 q7 => ?_)
      refine z_callS (pc' := 15) I mv_Cb_isAnswer ml_Cb_99 (fun ad => [vI x2]) ⟨Nat.le_of_ble_eq_true rfl, Nat.le_of_ble_eq_true rfl⟩ (fun hh => c_Cb_isAnswer hw ax2 hh q7) rfl rfl (Nat.le_of_ble_eq_true rfl) D_Cb_part_0.1.2.2.1 rfl (fun f6 => ?_)
      refine z_if_ne (tgt := 20) (pc' := 18) I (b01.R f6) D_Cb_part_0.1.2.2.2 rfl rfl (fun c9 => ?_) (fun c9 => ?_)
      · refine z_s I (s_iload_n (pc' := 21) 3 rfl D_Cb_part_0.2.1.2.1 rfl rfl) ?_
        refine z_s I (s_iconst (pc' := 22) D_Cb_part_0.2.1.2.2 rfl) ?_
        refine z_icmp_lt (tgt := 30) (pc' := 25) I ax3 (b01.R bz1) D_Cb_part_0.2.2.1.1 rfl rfl (fun c10 => ?_) (fun c10 => ?_)
        · refine z_s I (s_bipush (pc' := 32) D_Cb_part_1.1.1.1.1 rfl rfl) ?_
          exact z_ret (w := some (vI (-2))) I (fun g => gk0 _ _ g (inR_c (x := (-2)) rfl)) ⟨_, rfl⟩ D_Cb_part_1.1.1.1.2 rfl
        · refine z_s I (s_iload_n (pc' := 26) 3 rfl D_Cb_part_0.2.2.1.2 rfl rfl) ?_
          refine z_s I (s_iconst (pc' := 27) D_Cb_part_0.2.2.2.1 rfl) ?_
          refine z_icmp_le (tgt := 33) (pc' := 30) I ax3 (inR_c (x := 3) rfl) D_Cb_part_0.2.2.2.2 rfl rfl (fun c11 => ?_) (fun c11 => ?_)
          · refine z_s I (s_aload_n (pc' := 34) 0 rfl D_Cb_part_1.1.1.2.1 rfl rfl) ?_
            refine z_getR (pc' := 37) (eI := o + 1) I g_Cb_12 ao rfl (by omega) D_Cb_part_1.1.1.2.2 rfl ?_
            have k12 : ok τ (4, 1) (o + 1) := r_Cb_now hw ao (by omega)
            refine z_getR (pc' := 40) (eI := o + 4) I g_Cb_112 k12 rfl (by omega) D_Cb_part_1.1.2.1.1 rfl ?_
            have k13 : ok τ (3, 0) (o + 4) := r_Exam_parts hw k12 (by omega)
            refine z_s I (s_iload_n (pc' := 41) 1 rfl D_Cb_part_1.1.2.1.2 rfl rfl) ?_
            refine z_aald (pc' := 42) (eI := o + x1 + 5) I 8 1 1 k13 ax1 rfl rfl rfl (by omega) D_Cb_part_1.1.2.2.1 rfl (fun c14 => ?_)
            have k15 : ok τ (0, 4) (o + x1 + 5) := e_0 hw k13 c14 (by omega)
            refine z_s I (s_iload_n (pc' := 43) 2 rfl D_Cb_part_1.1.2.2.2 rfl rfl) ?_
            refine z_iald (pc' := 44) (nI := 4) I k15 ax2 rfl D_Cb_part_1.2.1.1.1 rfl (fun c16 f17 => ?_)
            refine z_bI f17 (fun v18 e19 f20 => ?_)
            refine z_s I (s_istore (pc' := 46) (lv' := [(4, vI v18), (0, vR ad o), (1, vI x1), (2, vI x2), (3, vI x3)]) D_Cb_part_1.2.1.1.2 (by decide) rfl rfl) ?_
            refine z_s I (s_aload_n (pc' := 47) 1 rfl D_Cb_part_1.2.1.2.1 rfl rfl) ?_
            refine z_getR (pc' := 50) (eI := o + 1) I g_Cb_12 ao rfl (by omega) D_Cb_part_1.2.1.2.2 rfl ?_
            have k21 : ok τ (4, 1) (o + 1) := r_Cb_now hw ao (by omega)
            refine z_getR (pc' := 53) (eI := o + 4) I g_Cb_112 k21 rfl (by omega) D_Cb_part_1.2.2.1.1 rfl ?_
            have k22 : ok τ (3, 0) (o + 4) := r_Exam_parts hw k21 (by omega)
            refine z_s I (s_iload_n (pc' := 54) 2 rfl D_Cb_part_1.2.2.1.2 rfl rfl) ?_
            refine z_aald (pc' := 55) (eI := o + x1 + 5) I 8 1 1 k22 ax1 rfl rfl rfl (by omega) D_Cb_part_1.2.2.2.1 rfl (fun c23 => ?_)
            have k24 : ok τ (0, 4) (o + x1 + 5) := e_0 hw k22 c23 (by omega)
            refine z_s I (s_iload_n (pc' := 56) 3 rfl D_Cb_part_1.2.2.2.2 rfl rfl) ?_
            refine z_s I (s_iload_n (pc' := 57) 4 rfl D_Cb_part_2.1.1 rfl rfl) ?_
            refine z_iast (pc' := 58) (nI := 4) I k24 ax2 ax3 rfl D_Cb_part_2.1.2 rfl (fun c25 => ?_)
            refine z_bH (fun h26 e27 => ?_)
            refine z_s I (s_iload (pc' := 60) 0 rfl D_Cb_part_2.2.1 rfl) ?_
            exact z_ret (w := some (vI v18)) I (fun g => gk0 _ _ g f20) ⟨_, rfl⟩ D_Cb_part_2.2.2 rfl
          · refine z_s I (s_bipush (pc' := 32) D_Cb_part_1.1.1.1.1 rfl rfl) ?_
            exact z_ret (w := some (vI (-2))) I (fun g => gk0 _ _ g (inR_c (x := (-2)) rfl)) ⟨_, rfl⟩ D_Cb_part_1.1.1.1.2 rfl
      · refine z_s I (s_iconst (pc' := 19) D_Cb_part_0.2.1.1.1 rfl) ?_
        exact z_ret (w := some (vI (-1))) I (fun g => gk0 _ _ g (inR_c (x := (-1)) rfl)) ⟨_, rfl⟩ D_Cb_part_0.2.1.1.2 rfl
  exact main _ hF (by rw [hG0])
set_option maxHeartbeats 4000000 in
set_option maxRecDepth 20000 in
theorem c_Exam_comes {l : Launch} {τ : TP} {o : Int} {h : HP} {r : Int} {h' : HP} (hw : wf τ) (ao : ok τ (4, 1) o) (hh : hr τ h) (hF : m_Exam_comes o h = some (r, h')) : Ctr l y_Exam_comes k_Exam_comes 1 (Option.some FieldType.int) 0 0 τ (fun ad => [vR ad o]) h (some (vI r)) h' (inR r) := by
  refine ctr_of (by decide) hw hh (fun ad => Nat.le_of_ble_eq_true rfl) (fun ad K Y I hK => ?_)
  obtain ⟨G0, hG0⟩ : ∃ G : Int × HP → Prop, G = fun x => x = (r, h') := ⟨_, rfl⟩
  have gk0 : ∀ (x : Int) (y : HP), G0 (x, y) → inR x → K (some (vI x)) y := fun x y g q => by
    rw [hG0] at g
    cases g
    exact hK q
  have main : Z Y (m_Exam_comes o h) G0 h 0 [(0, vR ad o)] [] := by
    unfold m_Exam_comes
    refine z_s I (s_aload_n (pc' := 1) 0 rfl D_Exam_comes_0.1.1.1 rfl rfl) ?_
    refine z_s I (s_dup (pc' := 2) rfl D_Exam_comes_0.1.1.2 rfl) ?_
    refine z_getI (pc' := 5) (jI := 1) I g_Exam_15 ao rfl rfl D_Exam_comes_0.1.2.1 rfl (fun f1 => ?_)
    refine z_s I (s_iconst (pc' := 6) D_Exam_comes_0.1.2.2.1 rfl) ?_
    refine z_s I (s_iadd (pc' := 7) D_Exam_comes_0.1.2.2.2 rfl) ?_
    refine z_putI (pc' := 10) (jI := 1) I p_Exam_15 ao rfl rfl (inR_w32 _) D_Exam_comes_0.2.1.1 rfl ?_
    refine z_bH (fun h2 e3 => ?_)
    refine z_s I (s_aload_n (pc' := 11) 0 rfl D_Exam_comes_0.2.1.2.1 rfl rfl) ?_
    refine z_getI (pc' := 14) (jI := 1) I g_Exam_15 ao rfl rfl D_Exam_comes_0.2.1.2.2 rfl (fun f4 => ?_)
    refine z_s I (s_iconst (pc' := 15) D_Exam_comes_0.2.2.1 rfl) ?_
    refine z_s I (s_isub (pc' := 16) D_Exam_comes_0.2.2.2.1 rfl) ?_
    exact z_ret (w := some (vI (w32 ((h2 o 1) - 1)))) I (fun g => gk0 _ _ g (inR_w32 _)) ⟨_, rfl⟩ D_Exam_comes_0.2.2.2.2 rfl
  exact main _ hF (by rw [hG0])
set_option maxHeartbeats 4000000 in
set_option maxRecDepth 20000 in
theorem c_Cb_candidate {l : Launch} {τ : TP} {o : Int} {h : HP} {r : Int} {h' : HP} (hw : wf τ) (ao : ok τ (4, 9) o) (hh : hr τ h) (hF : m_Cb_candidate o h = some (r, h')) : Ctr l y_Cb_candidate k_Cb_candidate 1 (Option.some FieldType.int) 1 20 τ (fun ad => [vR ad o]) h (some (vI r)) h' (inR r) := by
  refine ctr_of (by decide) hw hh (fun ad => Nat.le_of_ble_eq_true rfl) (fun ad K Y I hK => ?_)
  obtain ⟨G0, hG0⟩ : ∃ G : Int × HP → Prop, G = fun x => x = (r, h') := ⟨_, rfl⟩
  have gk0 : ∀ (x : Int) (y : HP), G0 (x, y) → inR x → K (some (vI x)) y := fun x y g q => by
    rw [hG0] at g
    cases g
    exact hK q
  have main : Z Y (m_Cb_candidate o h) G0 h 0 [(0, vR ad o)] [] := by
    unfold m_Cb_candidate
    refine z_s I (s_aload_n (pc' := 1) 0 rfl D_Cb_candidate_0.1.1.1 rfl rfl) ?_
    refine z_getR (pc' := 4) (eI := o + 1) I g_Cb_12 ao rfl (by omega) D_Cb_candidate_0.1.1.2 rfl ?_
    have k1 : ok τ (4, 1) (o + 1) := r_Cb_now hw ao (by omega)
    refine z_getI (pc' := 7) (jI := 1) I g_Cb_116 k1 rfl rfl D_Cb_candidate_0.1.2.1 rfl (fun f2 => ?_)
    refine z_s I (s_bipush (pc' := 9) D_Cb_candidate_0.1.2.2.1 rfl rfl) ?_
    refine z_icmp_ge (tgt := 22) (pc' := 12) I f2 (inR_c (x := 8) rfl) D_Cb_candidate_0.1.2.2.2 rfl rfl (fun c3 => ?_) (fun c3 => ?_)
    · refine z_s I (s_bipush (pc' := 24) D_Cb_candidate_0.2.2.2.1 rfl rfl) ?_
      exact z_ret (w := some (vI (-4))) I (fun g => gk0 _ _ g (inR_c (x := (-4)) rfl)) ⟨_, rfl⟩ D_Cb_candidate_0.2.2.2.2 rfl
    · refine z_s I (s_aload_n (pc' := 13) 0 rfl D_Cb_candidate_0.2.1.1 rfl rfl) ?_
      refine z_getR (pc' := 16) (eI := o + 1) I g_Cb_12 ao rfl (by omega) D_Cb_candidate_0.2.1.2.1 rfl ?_
      have k4 : ok τ (4, 1) (o + 1) := r_Cb_now hw ao (by omega)
      refine z_b2 (fun r7 h8 q6 => ?_)
      refine z_callV (pc' := 19) I mv_Exam_comes ml_Cb_119 (fun ad => []) ⟨Nat.le_of_ble_eq_true rfl, Nat.le_of_ble_eq_true rfl⟩ k4 (fun hh => c_Exam_comes hw k4 hh q6) rfl rfl (Nat.le_of_ble_eq_true rfl) D_Cb_candidate_0.2.1.2.2 rfl (fun f5 => ?_)
      refine z_s I (s_goto (tgt := 24) D_Cb_candidate_0.2.2.1 rfl) ?_
      exact z_ret (w := some (vI r7)) I (fun g => gk0 _ _ g f5) ⟨_, rfl⟩ D_Cb_candidate_0.2.2.2.2 rfl
  exact main _ hF (by rw [hG0])
set_option maxHeartbeats 4000000 in
set_option maxRecDepth 20000 in
theorem c_Exam_hasCandidate {l : Launch} {τ : TP} {o : Int} {x1 : Int} {h : HP} {r : Int} (hw : wf τ) (ao : ok τ (4, 1) o) (ax1 : inR x1) (hh : hr τ h) (hF : m_Exam_hasCandidate o x1 h = some r) : Ctr l y_Exam_hasCandidate k_Exam_hasCandidate 2 (Option.some FieldType.boolean) 0 0 τ (fun ad => [vR ad o, vI x1]) h (some (vI r)) h (b01 r) := by
  refine ctr_of (by decide) hw hh (fun ad => Nat.le_of_ble_eq_true rfl) (fun ad K Y I hK => ?_)
  obtain ⟨G0, hG0⟩ : ∃ G : Int → Prop, G = fun x => x = r := ⟨_, rfl⟩
  have gk0 : ∀ (x : Int), G0 x → b01 x → K (some (vI x)) h := fun x g q => by
    rw [hG0] at g
    cases g
    exact hK q
  have main : Z Y (m_Exam_hasCandidate o x1 h) G0 h 0 [(0, vR ad o), (1, vI x1)] [] := by
    unfold m_Exam_hasCandidate
    refine z_s I (s_iload_n (pc' := 1) 1 rfl D_Exam_hasCandidate_0.1.1.1 rfl rfl) ?_
    refine z_if_lt (tgt := 16) (pc' := 4) I ax1 D_Exam_hasCandidate_0.1.1.2 rfl rfl (fun c1 => ?_) (fun c1 => ?_)
    · refine z_s I (s_iconst (pc' := 17) D_Exam_hasCandidate_0.2.2.2.1 rfl) ?_
      exact z_ret (w := some (vI 0)) I (fun g => gk0 _ g bz0) ⟨_, bz0, rfl⟩ D_Exam_hasCandidate_0.2.2.2.2 rfl
    · refine z_s I (s_iload_n (pc' := 5) 1 rfl D_Exam_hasCandidate_0.1.2.1 rfl rfl) ?_
      refine z_s I (s_aload_n (pc' := 6) 0 rfl D_Exam_hasCandidate_0.1.2.2.1 rfl rfl) ?_
      refine z_getI (pc' := 9) (jI := 1) I g_Exam_15 ao rfl rfl D_Exam_hasCandidate_0.1.2.2.2 rfl (fun f2 => ?_)
      refine z_icmp_ge (tgt := 16) (pc' := 12) I ax1 f2 D_Exam_hasCandidate_0.2.1.1 rfl rfl (fun c3 => ?_) (fun c3 => ?_)
      · refine z_s I (s_iconst (pc' := 17) D_Exam_hasCandidate_0.2.2.2.1 rfl) ?_
        exact z_ret (w := some (vI 0)) I (fun g => gk0 _ g bz0) ⟨_, bz0, rfl⟩ D_Exam_hasCandidate_0.2.2.2.2 rfl
      · refine z_s I (s_iconst (pc' := 13) D_Exam_hasCandidate_0.2.1.2 rfl) ?_
        refine z_s I (s_goto (tgt := 17) D_Exam_hasCandidate_0.2.2.1 rfl) ?_
        exact z_ret (w := some (vI 1)) I (fun g => gk0 _ g bz1) ⟨_, bz1, rfl⟩ D_Exam_hasCandidate_0.2.2.2.2 rfl
  exact main _ hF (by rw [hG0])
set_option maxHeartbeats 4000000 in
set_option maxRecDepth 20000 in
theorem c_Cb_orNeither {l : Launch} {τ : TP} {x0 : Int} {h : HP} {r : Int} (hw : wf τ) (ax0 : inR x0) (hh : hr τ h) (hF : m_Cb_orNeither x0 h = some r) : Ctr l y_Cb_orNeither k_Cb_orNeither 1 (Option.some FieldType.int) 0 0 τ (fun ad => [vI x0]) h (some (vI r)) h (inR r) := by
  refine ctr_of (by decide) hw hh (fun ad => Nat.le_of_ble_eq_true rfl) (fun ad K Y I hK => ?_)
  obtain ⟨G0, hG0⟩ : ∃ G : Int → Prop, G = fun x => x = r := ⟨_, rfl⟩
  have gk0 : ∀ (x : Int), G0 x → inR x → K (some (vI x)) h := fun x g q => by
    rw [hG0] at g
    cases g
    exact hK q
  have main : Z Y (m_Cb_orNeither x0 h) G0 h 0 [(0, vI x0)] [] := by
    unfold m_Cb_orNeither
    refine z_s I (s_iload_n (pc' := 1) 0 rfl D_Cb_orNeither_0.1.1 rfl rfl) ?_
    refine z_if_ge (tgt := 9) (pc' := 4) I ax0 D_Cb_orNeither_0.1.2.1 rfl rfl (fun c1 => ?_) (fun c1 => ?_)
    · refine z_s I (s_iload_n (pc' := 10) 0 rfl D_Cb_orNeither_0.2.2.1 rfl rfl) ?_
      exact z_ret (w := some (vI x0)) I (fun g => gk0 _ g ax0) ⟨_, rfl⟩ D_Cb_orNeither_0.2.2.2 rfl
    · refine z_s I (s_bipush (pc' := 6) D_Cb_orNeither_0.1.2.2 rfl rfl) ?_
      refine z_s I (s_goto (tgt := 10) D_Cb_orNeither_0.2.1 rfl) ?_
      exact z_ret (w := some (vI (-5))) I (fun g => gk0 _ g (inR_c (x := (-5)) rfl)) ⟨_, rfl⟩ D_Cb_orNeither_0.2.2.2 rfl
  exact main _ hF (by rw [hG0])
set_option maxHeartbeats 4000000 in
set_option maxRecDepth 20000 in
theorem c_Cb_gives {l : Launch} {τ : TP} {o : Int} {x1 : Int} {x2 : Int} {x3 : Int} {h : HP} {r : Int} {h' : HP} (hw : wf τ) (ao : ok τ (4, 9) o) (ax1 : inR x1) (ax2 : inR x2) (ax3 : inR x3) (hh : hr τ h) (hF : m_Cb_gives o x1 x2 x3 h = some (r, h')) : Ctr l y_Cb_gives k_Cb_gives 5 (Option.some FieldType.int) 1 21 τ (fun ad => [vR ad o, vI x1, vI x2, vI x3]) h (some (vI r)) h' (inR r) := by
  refine ctr_of (by decide) hw hh (fun ad => Nat.le_of_ble_eq_true rfl) (fun ad K Y I hK => ?_)
  obtain ⟨G0, hG0⟩ : ∃ G : Int × HP → Prop, G = fun x => x = (r, h') := ⟨_, rfl⟩
  have gk0 : ∀ (x : Int) (y : HP), G0 (x, y) → inR x → K (some (vI x)) y := fun x y g q => by
    rw [hG0] at g
    cases g
    exact hK q
  have J39 : ∀ (h : HP), Z Y (m_Cb_gives_J39 o x1 x2 x3 h) G0 h 39 [(0, vR ad o), (1, vI x1), (2, vI x2), (3, vI x3)] [] := by
    intro h
    unfold m_Cb_gives_J39
    refine z_s I (s_aload_n (pc' := 40) 0 rfl D_Cb_gives_1.1.2.1.1 rfl rfl) ?_
    refine z_getR (pc' := 43) (eI := o + 1) I g_Cb_12 ao rfl (by omega) D_Cb_gives_1.1.2.1.2 rfl ?_
    have k1 : ok τ (4, 1) (o + 1) := r_Cb_now hw ao (by omega)
    refine z_getR (pc' := 46) (eI := o + 13) I g_Cb_126 k1 rfl (by omega) D_Cb_gives_1.1.2.2.1 rfl ?_
    have k2 : ok τ (3, 1) (o + 13) := r_Exam_given hw k1 (by omega)
    refine z_s I (s_iload_n (pc' := 47) 1 rfl D_Cb_gives_1.1.2.2.2 rfl rfl) ?_
    refine z_aald (pc' := 48) (eI := o + x1 + 14) I 8 1 1 k2 ax1 rfl rfl rfl (by omega) D_Cb_gives_1.2.1.1.1 rfl (fun c3 => ?_)
    have k4 : ok τ (0, 8) (o + x1 + 14) := e_1 hw k2 c3 (by omega)
    refine z_s I (s_iload_n (pc' := 49) 2 rfl D_Cb_gives_1.2.1.1.2 rfl rfl) ?_
    refine z_iald (pc' := 50) (nI := 8) I k4 ax2 rfl D_Cb_gives_1.2.1.2.1 rfl (fun c5 f6 => ?_)
    refine z_bI f6 (fun v7 e8 f9 => ?_)
    refine z_s I (s_istore (pc' := 52) (lv' := [(4, vI v7), (0, vR ad o), (1, vI x1), (2, vI x2), (3, vI x3)]) D_Cb_gives_1.2.1.2.2 (by decide) rfl rfl) ?_
    refine z_s I (s_aload_n (pc' := 53) 1 rfl D_Cb_gives_1.2.2.1.1 rfl rfl) ?_
    refine z_getR (pc' := 56) (eI := o + 1) I g_Cb_12 ao rfl (by omega) D_Cb_gives_1.2.2.1.2 rfl ?_
    have k10 : ok τ (4, 1) (o + 1) := r_Cb_now hw ao (by omega)
    refine z_getR (pc' := 59) (eI := o + 13) I g_Cb_126 k10 rfl (by omega) D_Cb_gives_1.2.2.2.1 rfl ?_
    have k11 : ok τ (3, 1) (o + 13) := r_Exam_given hw k10 (by omega)
    refine z_s I (s_iload_n (pc' := 60) 2 rfl D_Cb_gives_1.2.2.2.2 rfl rfl) ?_
    refine z_aald (pc' := 61) (eI := o + x1 + 14) I 8 1 1 k11 ax1 rfl rfl rfl (by omega) D_Cb_gives_2.1.1 rfl (fun c12 => ?_)
    have k13 : ok τ (0, 8) (o + x1 + 14) := e_1 hw k11 c12 (by omega)
    refine z_s I (s_iload_n (pc' := 62) 3 rfl D_Cb_gives_2.1.2.1 rfl rfl) ?_
    refine z_s I (s_iload_n (pc' := 63) 4 rfl D_Cb_gives_2.1.2.2 rfl rfl) ?_
    refine z_iast (pc' := 64) (nI := 8) I k13 ax2 ax3 rfl D_Cb_gives_2.2.1.1 rfl (fun c14 => ?_)
    refine z_bH (fun h15 e16 => ?_)
    refine z_s I (s_iload (pc' := 66) 0 rfl D_Cb_gives_2.2.1.2 rfl) ?_
    refine z_b1 (fun r19 q18 => ?_)
    refine z_callS (pc' := 69) I mv_Cb_orNeither ml_Cb_129 (fun ad => [vI v7]) ⟨Nat.le_of_ble_eq_true rfl, Nat.le_of_ble_eq_true rfl⟩ (fun hh => c_Cb_orNeither hw f9 hh q18) rfl rfl (Nat.le_of_ble_eq_true rfl) D_Cb_gives_2.2.2.1 rfl (fun f17 => ?_)
    exact z_ret (w := some (vI r19)) I (fun g => gk0 _ _ g f17) ⟨_, rfl⟩ D_Cb_gives_2.2.2.2 rfl
  have main : Z Y (m_Cb_gives o x1 x2 x3 h) G0 h 0 [(0, vR ad o), (1, vI x1), (2, vI x2), (3, vI x3)] [] := by
    unfold m_Cb_gives
    refine z_s I (s_aload_n (pc' := 1) 0 rfl D_Cb_gives_0.1.1.1.1 rfl rfl) ?_
    refine z_getR (pc' := 4) (eI := o + 1) I g_Cb_12 ao rfl (by omega) D_Cb_gives_0.1.1.1.2 rfl ?_
    have k20 : ok τ (4, 1) (o + 1) := r_Cb_now hw ao (by omega)
    refine z_s I (s_iload_n (pc' := 5) 1 rfl D_Cb_gives_0.1.1.2.1 rfl rfl) ?_
    refine z_b1 (fun r23 q22 => ?_)
    refine z_callV (pc' := 8) I mv_Exam_hasCandidate ml_Cb_123 (fun ad => [vI x1]) ⟨Nat.le_of_ble_eq_true rfl, Nat.le_of_ble_eq_true rfl⟩ k20 (fun hh => c_Exam_hasCandidate hw k20 ax1 hh q22) rfl rfl (Nat.le_of_ble_eq_true rfl) D_Cb_gives_0.1.1.2.2 rfl (fun f21 => ?_)
    refine z_if_eq (tgt := 22) (pc' := 11) I (b01.R f21) D_Cb_gives_0.1.2.1.1 rfl rfl (fun c24 => ?_) (fun c24 => ?_)
    · refine z_s I (s_iconst (pc' := 23) D_Cb_gives_0.2.1.2.1 rfl) ?_
      exact z_ret (w := some (vI (-1))) I (fun g => gk0 _ _ g (inR_c (x := (-1)) rfl)) ⟨_, rfl⟩ D_Cb_gives_0.2.1.2.2 rfl
    · refine z_s I (s_aload_n (pc' := 12) 0 rfl D_Cb_gives_0.1.2.1.2 rfl rfl) ?_
      refine z_getR (pc' := 15) (eI := o + 1) I g_Cb_12 ao rfl (by omega) D_Cb_gives_0.1.2.2.1 rfl ?_
      have k25 : ok τ (4, 1) (o + 1) := r_Cb_now hw ao (by omega)
      refine z_s I (s_iload_n (pc' := 16) 2 rfl D_Cb_gives_0.1.2.2.2 rfl rfl) ?_
      refine z_b1 (fun r28 q27 => ?_)
      refine z_callV (pc' := 19) I mv_Exam_hasItem ml_Cb_95 (fun ad => [vI x2]) ⟨Nat.le_of_ble_eq_true rfl, Nat.le_of_ble_eq_true rfl⟩ k25 (fun hh => c_Exam_hasItem hw k25 ax2 hh q27) rfl rfl (Nat.le_of_ble_eq_true rfl) D_Cb_gives_0.2.1.1.1 rfl (fun f26 => ?_)
      refine z_if_ne (tgt := 24) (pc' := 22) I (b01.R f26) D_Cb_gives_0.2.1.1.2 rfl rfl (fun c29 => ?_) (fun c29 => ?_)
      · refine z_s I (s_iload_n (pc' := 25) 3 rfl D_Cb_gives_0.2.2.1.1 rfl rfl) ?_
        refine z_s I (s_iconst (pc' := 26) D_Cb_gives_0.2.2.1.2 rfl) ?_
        refine z_icmp_eq (tgt := 39) (pc' := 29) I ax3 (inR_c (x := (-1)) rfl) D_Cb_gives_0.2.2.2.1 rfl rfl (fun c30 => ?_) (fun c30 => ?_)
        · exact J39 _
        · refine z_s I (s_iload_n (pc' := 30) 3 rfl D_Cb_gives_0.2.2.2.2 rfl rfl) ?_
          refine z_b1 (fun r33 q32 => ?_)
          refine z_callS (pc' := 33) I mv_Cb_isAnswer ml_Cb_99 (fun ad => [vI x3]) ⟨Nat.le_of_ble_eq_true rfl, Nat.le_of_ble_eq_true rfl⟩ (fun hh => c_Cb_isAnswer hw ax3 hh q32) rfl rfl (Nat.le_of_ble_eq_true rfl) D_Cb_gives_1.1.1.1.1 rfl (fun f31 => ?_)
          refine z_if_ne (tgt := 39) (pc' := 36) I (b01.R f31) D_Cb_gives_1.1.1.1.2 rfl rfl (fun c34 => ?_) (fun c34 => ?_)
          · exact J39 _
          · refine z_s I (s_bipush (pc' := 38) D_Cb_gives_1.1.1.2.1 rfl rfl) ?_
            exact z_ret (w := some (vI (-2))) I (fun g => gk0 _ _ g (inR_c (x := (-2)) rfl)) ⟨_, rfl⟩ D_Cb_gives_1.1.1.2.2 rfl
      · refine z_s I (s_iconst (pc' := 23) D_Cb_gives_0.2.1.2.1 rfl) ?_
        exact z_ret (w := some (vI (-1))) I (fun g => gk0 _ _ g (inR_c (x := (-1)) rfl)) ⟨_, rfl⟩ D_Cb_gives_0.2.1.2.2 rfl
  exact main _ hF (by rw [hG0])
set_option maxHeartbeats 4000000 in
set_option maxRecDepth 20000 in
theorem c_Exam_whoSits {l : Launch} {τ : TP} {o : Int} {x1 : Int} {x2 : Int} {h : HP} {r : Int} (hw : wf τ) (ao : ok τ (4, 1) o) (ax1 : inR x1) (ax2 : inR x2) (hh : hr τ h) (hF : m_Exam_whoSits o x1 x2 h = some r) : Ctr l y_Exam_whoSits k_Exam_whoSits 4 (Option.some FieldType.int) 0 0 τ (fun ad => [vR ad o, vI x1, vI x2]) h (some (vI r)) h (inR r) := by
  refine ctr_of (by decide) hw hh (fun ad => Nat.le_of_ble_eq_true rfl) (fun ad K Y I hK => ?_)
  obtain ⟨G0, hG0⟩ : ∃ G : Int → Prop, G = fun x => x = r := ⟨_, rfl⟩
  have gk0 : ∀ (x : Int), G0 x → inR x → K (some (vI x)) h := fun x g q => by
    rw [hG0] at g
    cases g
    exact hK q
  have L2 : ∀ (s : Int), (inR s) → Z Y (m_Exam_whoSits_L2 o x1 x2 h s) G0 h 2 [(0, vR ad o), (1, vI x1), (2, vI x2), (3, vI s)] [] := by
    intro s hs
    refine z_loop (G := G0) (hO := fun s : Int => h) (lO := fun s : Int => [(0, vR ad o), (1, vI x1), (2, vI x2), (3, vI s)]) (Φ := fun s : Int => inR s) (fun G1 hin1_1 hout1 s hs => ?_) FUEL s hs
    obtain ⟨x3, rfl⟩ : ∃ z, z = s := ⟨_, rfl⟩
    have ax3 := hs
    have gk1 := fun (x : Int) (g : G1 (.inr (x))) (q : inR x) => gk0 x (hout1 _ g) q
    show Z Y (m_Exam_whoSits_L2b o x1 x2 h x3) G1 h 2 [(0, vR ad o), (1, vI x1), (2, vI x2), (3, vI x3)] []
    unfold m_Exam_whoSits_L2b
    refine z_s I (s_iload_n (pc' := 3) 3 rfl D_Exam_whoSits_0.1.1.2.1 rfl rfl) ?_
    refine z_s I (s_aload_n (pc' := 4) 0 rfl D_Exam_whoSits_0.1.1.2.2 rfl rfl) ?_
    refine z_getI (pc' := 7) (jI := 1) I g_Exam_15 ao rfl rfl D_Exam_whoSits_0.1.2.1.1 rfl (fun f1 => ?_)
    refine z_icmp_ge (tgt := 38) (pc' := 10) I ax3 f1 D_Exam_whoSits_0.1.2.1.2 rfl rfl (fun c2 => ?_) (fun c2 => ?_)
    · refine z_s I (s_iconst (pc' := 39) D_Exam_whoSits_1.2.2.1 rfl) ?_
      exact z_ret (w := some (vI (-1))) I (fun g => gk1 _ g (inR_c (x := (-1)) rfl)) ⟨_, rfl⟩ D_Exam_whoSits_1.2.2.2 rfl
    · refine z_s I (s_aload_n (pc' := 11) 0 rfl D_Exam_whoSits_0.1.2.2.1 rfl rfl) ?_
      refine z_getR (pc' := 14) (eI := o + 21) I g_Exam_39 ao rfl (by omega) D_Exam_whoSits_0.1.2.2.2 rfl ?_
      have k3 : ok τ (0, 8) (o + 21) := r_Exam_row hw ao (by omega)
      refine z_s I (s_iload_n (pc' := 15) 3 rfl D_Exam_whoSits_0.2.1.1.1 rfl rfl) ?_
      refine z_iald (pc' := 16) (nI := 8) I k3 ax3 rfl D_Exam_whoSits_0.2.1.1.2 rfl (fun c4 f5 => ?_)
      refine z_s I (s_iload_n (pc' := 17) 1 rfl D_Exam_whoSits_0.2.1.2.1 rfl rfl) ?_
      refine z_icmp_ne (tgt := 32) (pc' := 20) I f5 ax1 D_Exam_whoSits_0.2.1.2.2 rfl rfl (fun c6 => ?_) (fun c6 => ?_)
      · refine z_s I (s_iinc (pc' := 35) (lv' := [(3, vI (w32 (x3 + 1))), (0, vR ad o), (1, vI x1), (2, vI x2)]) (n := 3) rfl D_Exam_whoSits_1.2.1.1 (by decide) rfl rfl) ?_
        refine z_s I (s_goto (tgt := 2) D_Exam_whoSits_1.2.1.2 rfl) ?_
        refine z_s I (s_lv (lv' := [(0, vR ad o), (1, vI x1), (2, vI x2), (3, vI (w32 (x3 + 1)))]) [1, 2, 3, 0] rfl) ?_
        exact z_end (fun g => hin1_1 _ g (inR_w32 _))
      · refine z_s I (s_aload_n (pc' := 21) 0 rfl D_Exam_whoSits_0.2.2.1.1 rfl rfl) ?_
        refine z_getR (pc' := 24) (eI := o + 22) I g_Exam_42 ao rfl (by omega) D_Exam_whoSits_0.2.2.1.2 rfl ?_
        have k7 : ok τ (0, 8) (o + 22) := r_Exam_place hw ao (by omega)
        refine z_s I (s_iload_n (pc' := 25) 3 rfl D_Exam_whoSits_0.2.2.2.1 rfl rfl) ?_
        refine z_iald (pc' := 26) (nI := 8) I k7 ax3 rfl D_Exam_whoSits_0.2.2.2.2 rfl (fun c8 f9 => ?_)
        refine z_s I (s_iload_n (pc' := 27) 2 rfl D_Exam_whoSits_1.1.1.1 rfl rfl) ?_
        refine z_icmp_ne (tgt := 32) (pc' := 30) I f9 ax2 D_Exam_whoSits_1.1.1.2 rfl rfl (fun c10 => ?_) (fun c10 => ?_)
        · refine z_s I (s_iinc (pc' := 35) (lv' := [(3, vI (w32 (x3 + 1))), (0, vR ad o), (1, vI x1), (2, vI x2)]) (n := 3) rfl D_Exam_whoSits_1.2.1.1 (by decide) rfl rfl) ?_
          refine z_s I (s_goto (tgt := 2) D_Exam_whoSits_1.2.1.2 rfl) ?_
          refine z_s I (s_lv (lv' := [(0, vR ad o), (1, vI x1), (2, vI x2), (3, vI (w32 (x3 + 1)))]) [1, 2, 3, 0] rfl) ?_
          exact z_end (fun g => hin1_1 _ g (inR_w32 _))
        · refine z_s I (s_iload_n (pc' := 31) 3 rfl D_Exam_whoSits_1.1.2.1 rfl rfl) ?_
          exact z_ret (w := some (vI x3)) I (fun g => gk1 _ g ax3) ⟨_, rfl⟩ D_Exam_whoSits_1.1.2.2 rfl
  have main : Z Y (m_Exam_whoSits o x1 x2 h) G0 h 0 [(0, vR ad o), (1, vI x1), (2, vI x2)] [] := by
    unfold m_Exam_whoSits
    refine z_s I (s_iconst (pc' := 1) D_Exam_whoSits_0.1.1.1.1 rfl) ?_
    refine z_s I (s_istore_n (pc' := 2) (lv' := [(3, vI 0), (0, vR ad o), (1, vI x1), (2, vI x2)]) D_Exam_whoSits_0.1.1.1.2 rfl (by decide) rfl rfl) ?_
    refine z_s I (s_lv (lv' := [(0, vR ad o), (1, vI x1), (2, vI x2), (3, vI 0)]) [1, 2, 3, 0] rfl) ?_
    exact L2 _ (b01.R bz0)
  exact main _ hF (by rw [hG0])
set_option maxHeartbeats 4000000 in
set_option maxRecDepth 20000 in
theorem c_Cb_seat {l : Launch} {τ : TP} {o : Int} {x1 : Int} {x2 : Int} {x3 : Int} {h : HP} {r : Int} {h' : HP} (hw : wf τ) (ao : ok τ (4, 9) o) (ax1 : inR x1) (ax2 : inR x2) (ax3 : inR x3) (hh : hr τ h) (hF : m_Cb_seat o x1 x2 x3 h = some (r, h')) : Ctr l y_Cb_seat k_Cb_seat 5 (Option.some FieldType.int) 1 23 τ (fun ad => [vR ad o, vI x1, vI x2, vI x3]) h (some (vI r)) h' (inR r) := by
  refine ctr_of (by decide) hw hh (fun ad => Nat.le_of_ble_eq_true rfl) (fun ad K Y I hK => ?_)
  obtain ⟨G0, hG0⟩ : ∃ G : Int × HP → Prop, G = fun x => x = (r, h') := ⟨_, rfl⟩
  have gk0 : ∀ (x : Int) (y : HP), G0 (x, y) → inR x → K (some (vI x)) y := fun x y g q => by
    rw [hG0] at g
    cases g
    exact hK q
  have J78 : ∀ (h : HP), Z Y (m_Cb_seat_J78 o x1 x2 x3 h) G0 h 78 [(0, vR ad o), (1, vI x1), (2, vI x2), (3, vI x3)] [] := by
    intro h
    unfold m_Cb_seat_J78
    refine z_s I (s_aload_n (pc' := 79) 0 rfl D_Cb_seat_2.2.1.2.2 rfl rfl) ?_
    refine z_getR (pc' := 82) (eI := o + 1) I g_Cb_12 ao rfl (by omega) D_Cb_seat_2.2.2.1.1 rfl ?_
    have k1 : ok τ (4, 1) (o + 1) := r_Cb_now hw ao (by omega)
    refine z_s I (s_iload_n (pc' := 83) 1 rfl D_Cb_seat_2.2.2.1.2 rfl rfl) ?_
    refine z_s I (s_iload_n (pc' := 84) 2 rfl D_Cb_seat_2.2.2.2.1 rfl rfl) ?_
    refine z_s I (s_iload_n (pc' := 85) 3 rfl D_Cb_seat_2.2.2.2.2 rfl rfl) ?_
    refine z_b1 (fun h4 q3 => ?_)
    refine z_callV (pc' := 88) I mv_Exam_sits ml_Cb_133 (fun ad => [vI x1, vI x2, vI x3]) ⟨Nat.le_of_ble_eq_true rfl, Nat.le_of_ble_eq_true rfl⟩ k1 (fun hh => c_Exam_sits hw k1 ax1 ax2 ax3 hh q3) rfl rfl (Nat.le_of_ble_eq_true rfl) D_Cb_seat_3.1 rfl (fun f2 => ?_)
    refine z_s I (s_iconst (pc' := 89) D_Cb_seat_3.2.1 rfl) ?_
    exact z_ret (w := some (vI 1)) I (fun g => gk0 _ _ g (b01.R bz1)) ⟨_, rfl⟩ D_Cb_seat_3.2.2 rfl
  have main : Z Y (m_Cb_seat o x1 x2 x3 h) G0 h 0 [(0, vR ad o), (1, vI x1), (2, vI x2), (3, vI x3)] [] := by
    unfold m_Cb_seat
    refine z_s I (s_aload_n (pc' := 1) 0 rfl D_Cb_seat_0.1.1.1.1 rfl rfl) ?_
    refine z_getR (pc' := 4) (eI := o + 1) I g_Cb_12 ao rfl (by omega) D_Cb_seat_0.1.1.1.2 rfl ?_
    have k5 : ok τ (4, 1) (o + 1) := r_Cb_now hw ao (by omega)
    refine z_s I (s_iload_n (pc' := 5) 1 rfl D_Cb_seat_0.1.1.2.1 rfl rfl) ?_
    refine z_b1 (fun r8 q7 => ?_)
    refine z_callV (pc' := 8) I mv_Exam_hasCandidate ml_Cb_123 (fun ad => [vI x1]) ⟨Nat.le_of_ble_eq_true rfl, Nat.le_of_ble_eq_true rfl⟩ k5 (fun hh => c_Exam_hasCandidate hw k5 ax1 hh q7) rfl rfl (Nat.le_of_ble_eq_true rfl) D_Cb_seat_0.1.1.2.2 rfl (fun f6 => ?_)
    refine z_if_ne (tgt := 13) (pc' := 11) I (b01.R f6) D_Cb_seat_0.1.2.1.1 rfl rfl (fun c9 => ?_) (fun c9 => ?_)
    · refine z_s I (s_iload_n (pc' := 14) 2 rfl D_Cb_seat_0.1.2.2.2 rfl rfl) ?_
      refine z_s I (s_iconst (pc' := 15) D_Cb_seat_0.2.1.1.1 rfl) ?_
      refine z_icmp_ne (tgt := 30) (pc' := 18) I ax2 (inR_c (x := (-1)) rfl) D_Cb_seat_0.2.1.1.2 rfl rfl (fun c10 => ?_) (fun c10 => ?_)
      · refine z_s I (s_iload_n (pc' := 31) 2 rfl D_Cb_seat_1.1.1.2.1 rfl rfl) ?_
        refine z_if_lt (tgt := 50) (pc' := 34) I ax2 D_Cb_seat_1.1.1.2.2 rfl rfl (fun c11 => ?_) (fun c11 => ?_)
        · refine z_s I (s_bipush (pc' := 52) D_Cb_seat_1.2.2.1.1 rfl rfl) ?_
          exact z_ret (w := some (vI (-2))) I (fun g => gk0 _ _ g (inR_c (x := (-2)) rfl)) ⟨_, rfl⟩ D_Cb_seat_1.2.2.1.2 rfl
        · refine z_s I (s_iload_n (pc' := 35) 2 rfl D_Cb_seat_1.1.2.1.1 rfl rfl) ?_
          refine z_s I (s_bipush (pc' := 37) D_Cb_seat_1.1.2.1.2 rfl rfl) ?_
          refine z_icmp_ge (tgt := 50) (pc' := 40) I ax2 (inR_c (x := 10) rfl) D_Cb_seat_1.1.2.2.1 rfl rfl (fun c12 => ?_) (fun c12 => ?_)
          · refine z_s I (s_bipush (pc' := 52) D_Cb_seat_1.2.2.1.1 rfl rfl) ?_
            exact z_ret (w := some (vI (-2))) I (fun g => gk0 _ _ g (inR_c (x := (-2)) rfl)) ⟨_, rfl⟩ D_Cb_seat_1.2.2.1.2 rfl
          · refine z_s I (s_iload_n (pc' := 41) 3 rfl D_Cb_seat_1.1.2.2.2 rfl rfl) ?_
            refine z_if_lt (tgt := 50) (pc' := 44) I ax3 D_Cb_seat_1.2.1.1.1 rfl rfl (fun c13 => ?_) (fun c13 => ?_)
            · refine z_s I (s_bipush (pc' := 52) D_Cb_seat_1.2.2.1.1 rfl rfl) ?_
              exact z_ret (w := some (vI (-2))) I (fun g => gk0 _ _ g (inR_c (x := (-2)) rfl)) ⟨_, rfl⟩ D_Cb_seat_1.2.2.1.2 rfl
            · refine z_s I (s_iload_n (pc' := 45) 3 rfl D_Cb_seat_1.2.1.1.2 rfl rfl) ?_
              refine z_s I (s_bipush (pc' := 47) D_Cb_seat_1.2.1.2.1 rfl rfl) ?_
              refine z_icmp_lt (tgt := 53) (pc' := 50) I ax3 (inR_c (x := 10) rfl) D_Cb_seat_1.2.1.2.2 rfl rfl (fun c14 => ?_) (fun c14 => ?_)
              · refine z_s I (s_aload_n (pc' := 54) 0 rfl D_Cb_seat_1.2.2.2.1 rfl rfl) ?_
                refine z_getR (pc' := 57) (eI := o + 1) I g_Cb_12 ao rfl (by omega) D_Cb_seat_1.2.2.2.2 rfl ?_
                have k15 : ok τ (4, 1) (o + 1) := r_Cb_now hw ao (by omega)
                refine z_s I (s_iload_n (pc' := 58) 2 rfl D_Cb_seat_2.1.1.1.1 rfl rfl) ?_
                refine z_s I (s_iload_n (pc' := 59) 3 rfl D_Cb_seat_2.1.1.1.2 rfl rfl) ?_
                refine z_b1 (fun r18 q17 => ?_)
                refine z_callV (pc' := 62) I mv_Exam_whoSits ml_Cb_137 (fun ad => [vI x2, vI x3]) ⟨Nat.le_of_ble_eq_true rfl, Nat.le_of_ble_eq_true rfl⟩ k15 (fun hh => c_Exam_whoSits hw k15 ax2 ax3 hh q17) rfl rfl (Nat.le_of_ble_eq_true rfl) D_Cb_seat_2.1.1.2.1 rfl (fun f16 => ?_)
                refine z_s I (s_istore (pc' := 64) (lv' := [(4, vI r18), (0, vR ad o), (1, vI x1), (2, vI x2), (3, vI x3)]) D_Cb_seat_2.1.1.2.2 (by decide) rfl rfl) ?_
                refine z_s I (s_iload (pc' := 66) 0 rfl D_Cb_seat_2.1.2.1.1 rfl) ?_
                refine z_if_lt (tgt := 78) (pc' := 69) I f16 D_Cb_seat_2.1.2.1.2 rfl rfl (fun c19 => ?_) (fun c19 => ?_)
                · refine z_s I (s_lv (lv' := [(0, vR ad o), (1, vI x1), (2, vI x2), (3, vI x3)]) [1, 2, 3, 4] rfl) ?_
                  exact J78 _
                · refine z_s I (s_iload (pc' := 71) 0 rfl D_Cb_seat_2.1.2.2.1 rfl) ?_
                  refine z_s I (s_iload_n (pc' := 72) 2 rfl D_Cb_seat_2.1.2.2.2 rfl rfl) ?_
                  refine z_icmp_eq (tgt := 78) (pc' := 75) I f16 ax1 D_Cb_seat_2.2.1.1.1 rfl rfl (fun c20 => ?_) (fun c20 => ?_)
                  · refine z_s I (s_lv (lv' := [(0, vR ad o), (1, vI x1), (2, vI x2), (3, vI x3)]) [1, 2, 3, 4] rfl) ?_
                    exact J78 _
                  · refine z_s I (s_bipush (pc' := 77) D_Cb_seat_2.2.1.1.2 rfl rfl) ?_
                    exact z_ret (w := some (vI (-3))) I (fun g => gk0 _ _ g (inR_c (x := (-3)) rfl)) ⟨_, rfl⟩ D_Cb_seat_2.2.1.2.1 rfl
              · refine z_s I (s_bipush (pc' := 52) D_Cb_seat_1.2.2.1.1 rfl rfl) ?_
                exact z_ret (w := some (vI (-2))) I (fun g => gk0 _ _ g (inR_c (x := (-2)) rfl)) ⟨_, rfl⟩ D_Cb_seat_1.2.2.1.2 rfl
      · refine z_s I (s_aload_n (pc' := 19) 0 rfl D_Cb_seat_0.2.1.2.1 rfl rfl) ?_
        refine z_getR (pc' := 22) (eI := o + 1) I g_Cb_12 ao rfl (by omega) D_Cb_seat_0.2.1.2.2 rfl ?_
        have k21 : ok τ (4, 1) (o + 1) := r_Cb_now hw ao (by omega)
        refine z_s I (s_iload_n (pc' := 23) 1 rfl D_Cb_seat_0.2.2.1.1 rfl rfl) ?_
        refine z_s I (s_iconst (pc' := 24) D_Cb_seat_0.2.2.1.2 rfl) ?_
        refine z_s I (s_iconst (pc' := 25) D_Cb_seat_0.2.2.2.1 rfl) ?_
        refine z_b1 (fun h24 q23 => ?_)
        refine z_callV (pc' := 28) I mv_Exam_sits ml_Cb_133 (fun ad => [vI x1, vI (-1), vI (-1)]) ⟨Nat.le_of_ble_eq_true rfl, Nat.le_of_ble_eq_true rfl⟩ k21 (fun hh => c_Exam_sits hw k21 ax1 (inR_c (x := (-1)) rfl) (inR_c (x := (-1)) rfl) hh q23) rfl rfl (Nat.le_of_ble_eq_true rfl) D_Cb_seat_0.2.2.2.2 rfl (fun f22 => ?_)
        refine z_s I (s_iconst (pc' := 29) D_Cb_seat_1.1.1.1.1 rfl) ?_
        exact z_ret (w := some (vI 1)) I (fun g => gk0 _ _ g (b01.R bz1)) ⟨_, rfl⟩ D_Cb_seat_1.1.1.1.2 rfl
    · refine z_s I (s_iconst (pc' := 12) D_Cb_seat_0.1.2.1.2 rfl) ?_
      exact z_ret (w := some (vI (-1))) I (fun g => gk0 _ _ g (inR_c (x := (-1)) rfl)) ⟨_, rfl⟩ D_Cb_seat_0.1.2.2.1 rfl
  exact main _ hF (by rw [hG0])
set_option maxHeartbeats 4000000 in
set_option maxRecDepth 20000 in
theorem c_Text_isFull {l : Launch} {τ : TP} {o : Int} {h : HP} {r : Int} (hw : wf τ) (ao : ok τ (4, 8) o) (hh : hr τ h) (hF : m_Text_isFull o h = some r) : Ctr l y_Text_isFull k_Text_isFull 1 (Option.some FieldType.boolean) 0 0 τ (fun ad => [vR ad o]) h (some (vI r)) h (b01 r) := by
  refine ctr_of (by decide) hw hh (fun ad => Nat.le_of_ble_eq_true rfl) (fun ad K Y I hK => ?_)
  obtain ⟨G0, hG0⟩ : ∃ G : Int → Prop, G = fun x => x = r := ⟨_, rfl⟩
  have gk0 : ∀ (x : Int), G0 x → b01 x → K (some (vI x)) h := fun x g q => by
    rw [hG0] at g
    cases g
    exact hK q
  have main : Z Y (m_Text_isFull o h) G0 h 0 [(0, vR ad o)] [] := by
    unfold m_Text_isFull
    refine z_s I (s_aload_n (pc' := 1) 0 rfl D_Text_isFull_0.1.1.1 rfl rfl) ?_
    refine z_getI (pc' := 4) (jI := 0) I g_Text_9 ao rfl rfl D_Text_isFull_0.1.1.2 rfl (fun f1 => ?_)
    refine z_s I (s_bipush (pc' := 6) D_Text_isFull_0.1.2.1 rfl rfl) ?_
    refine z_icmp_lt (tgt := 13) (pc' := 9) I f1 (inR_c (x := 60) rfl) D_Text_isFull_0.1.2.2 rfl rfl (fun c2 => ?_) (fun c2 => ?_)
    · refine z_s I (s_iconst (pc' := 14) D_Text_isFull_0.2.2.1 rfl) ?_
      exact z_ret (w := some (vI 0)) I (fun g => gk0 _ g bz0) ⟨_, bz0, rfl⟩ D_Text_isFull_0.2.2.2 rfl
    · refine z_s I (s_iconst (pc' := 10) D_Text_isFull_0.2.1.1 rfl) ?_
      refine z_s I (s_goto (tgt := 14) D_Text_isFull_0.2.1.2 rfl) ?_
      exact z_ret (w := some (vI 1)) I (fun g => gk0 _ g bz1) ⟨_, bz1, rfl⟩ D_Text_isFull_0.2.2.2 rfl
  exact main _ hF (by rw [hG0])
set_option maxHeartbeats 4000000 in
set_option maxRecDepth 20000 in
theorem c_Text_append {l : Launch} {τ : TP} {o : Int} {x1 : Int} {h : HP} {r : Int} {h' : HP} (hw : wf τ) (ao : ok τ (4, 8) o) (ax1 : inR x1) (hh : hr τ h) (hF : m_Text_append o x1 h = some (r, h')) : Ctr l y_Text_append k_Text_append 2 (Option.some FieldType.int) 0 0 τ (fun ad => [vR ad o, vI x1]) h (some (vI r)) h' (inR r) := by
  refine ctr_of (by decide) hw hh (fun ad => Nat.le_of_ble_eq_true rfl) (fun ad K Y I hK => ?_)
  obtain ⟨G0, hG0⟩ : ∃ G : Int × HP → Prop, G = fun x => x = (r, h') := ⟨_, rfl⟩
  have gk0 : ∀ (x : Int) (y : HP), G0 (x, y) → inR x → K (some (vI x)) y := fun x y g q => by
    rw [hG0] at g
    cases g
    exact hK q
  have main : Z Y (m_Text_append o x1 h) G0 h 0 [(0, vR ad o), (1, vI x1)] [] := by
    unfold m_Text_append
    refine z_s I (s_aload_n (pc' := 1) 0 rfl D_Text_append_0.1.1.1 rfl rfl) ?_
    refine z_getR (pc' := 4) (eI := o + 1) I g_Text_15 ao rfl (by omega) D_Text_append_0.1.1.2.1 rfl ?_
    have k1 : ok τ (0, 60) (o + 1) := r_Text_signs hw ao (by omega)
    refine z_s I (s_aload_n (pc' := 5) 0 rfl D_Text_append_0.1.1.2.2 rfl rfl) ?_
    refine z_getI (pc' := 8) (jI := 0) I g_Text_9 ao rfl rfl D_Text_append_0.1.2.1.1 rfl (fun f2 => ?_)
    refine z_s I (s_iload_n (pc' := 9) 1 rfl D_Text_append_0.1.2.1.2 rfl rfl) ?_
    refine z_iast (pc' := 10) (nI := 60) I k1 f2 ax1 rfl D_Text_append_0.1.2.2.1 rfl (fun c3 => ?_)
    refine z_bH (fun h4 e5 => ?_)
    refine z_s I (s_aload_n (pc' := 11) 0 rfl D_Text_append_0.1.2.2.2 rfl rfl) ?_
    refine z_s I (s_dup (pc' := 12) rfl D_Text_append_0.2.1.1.1 rfl) ?_
    refine z_getI (pc' := 15) (jI := 0) I g_Text_9 ao rfl rfl D_Text_append_0.2.1.1.2 rfl (fun f6 => ?_)
    refine z_s I (s_iconst (pc' := 16) D_Text_append_0.2.1.2.1 rfl) ?_
    refine z_s I (s_iadd (pc' := 17) D_Text_append_0.2.1.2.2 rfl) ?_
    refine z_putI (pc' := 20) (jI := 0) I p_Text_9 ao rfl rfl (inR_w32 _) D_Text_append_0.2.2.1.1 rfl ?_
    refine z_bH (fun h7 e8 => ?_)
    refine z_s I (s_aload_n (pc' := 21) 0 rfl D_Text_append_0.2.2.1.2 rfl rfl) ?_
    refine z_getI (pc' := 24) (jI := 0) I g_Text_9 ao rfl rfl D_Text_append_0.2.2.2.1 rfl (fun f9 => ?_)
    exact z_ret (w := some (vI (h7 o 0))) I (fun g => gk0 _ _ g f9) ⟨_, rfl⟩ D_Text_append_0.2.2.2.2 rfl
  exact main _ hF (by rw [hG0])
set_option maxHeartbeats 4000000 in
set_option maxRecDepth 20000 in
theorem c_Cb_feed {l : Launch} {τ : TP} {o : Int} {x1 : Int} {h : HP} {r : Int} {h' : HP} (hw : wf τ) (ao : ok τ (4, 9) o) (ax1 : inR x1) (hh : hr τ h) (hF : m_Cb_feed o x1 h = some (r, h')) : Ctr l y_Cb_feed k_Cb_feed 2 (Option.some FieldType.int) 1 21 τ (fun ad => [vR ad o, vI x1]) h (some (vI r)) h' (inR r) := by
  refine ctr_of (by decide) hw hh (fun ad => Nat.le_of_ble_eq_true rfl) (fun ad K Y I hK => ?_)
  obtain ⟨G0, hG0⟩ : ∃ G : Int × HP → Prop, G = fun x => x = (r, h') := ⟨_, rfl⟩
  have gk0 : ∀ (x : Int) (y : HP), G0 (x, y) → inR x → K (some (vI x)) y := fun x y g q => by
    rw [hG0] at g
    cases g
    exact hK q
  have main : Z Y (m_Cb_feed o x1 h) G0 h 0 [(0, vR ad o), (1, vI x1)] [] := by
    unfold m_Cb_feed
    refine z_s I (s_iload_n (pc' := 1) 1 rfl D_Cb_feed_0.1.1.1.1 rfl rfl) ?_
    refine z_if_lt (tgt := 10) (pc' := 4) I ax1 D_Cb_feed_0.1.1.1.2 rfl rfl (fun c1 => ?_) (fun c1 => ?_)
    · refine z_s I (s_bipush (pc' := 12) D_Cb_feed_0.1.2.1.2 rfl rfl) ?_
      exact z_ret (w := some (vI (-2))) I (fun g => gk0 _ _ g (inR_c (x := (-2)) rfl)) ⟨_, rfl⟩ D_Cb_feed_0.1.2.2.1 rfl
    · refine z_s I (s_iload_n (pc' := 5) 1 rfl D_Cb_feed_0.1.1.2.1 rfl rfl) ?_
      refine z_s I (s_bipush (pc' := 7) D_Cb_feed_0.1.1.2.2 rfl rfl) ?_
      refine z_icmp_le (tgt := 13) (pc' := 10) I ax1 (inR_c (x := 127) rfl) D_Cb_feed_0.1.2.1.1 rfl rfl (fun c2 => ?_) (fun c2 => ?_)
      · refine z_s I (s_aload_n (pc' := 14) 0 rfl D_Cb_feed_0.1.2.2.2 rfl rfl) ?_
        refine z_getR (pc' := 17) (eI := o + 91) I g_Cb_31 ao rfl (by omega) D_Cb_feed_0.2.1.1.1 rfl ?_
        have k3 : ok τ (4, 8) (o + 91) := r_Cb_text hw ao (by omega)
        refine z_b1 (fun r6 q5 => ?_)
        refine z_callV (pc' := 20) I mv_Text_isFull ml_Cb_141 (fun ad => []) ⟨Nat.le_of_ble_eq_true rfl, Nat.le_of_ble_eq_true rfl⟩ k3 (fun hh => c_Text_isFull hw k3 hh q5) rfl rfl (Nat.le_of_ble_eq_true rfl) D_Cb_feed_0.2.1.1.2 rfl (fun f4 => ?_)
        refine z_if_eq (tgt := 28) (pc' := 23) I (b01.R f4) D_Cb_feed_0.2.1.2.1 rfl rfl (fun c7 => ?_) (fun c7 => ?_)
        · refine z_s I (s_aload_n (pc' := 29) 0 rfl D_Cb_feed_0.2.2.1.2 rfl rfl) ?_
          refine z_getR (pc' := 32) (eI := o + 91) I g_Cb_31 ao rfl (by omega) D_Cb_feed_0.2.2.2.1 rfl ?_
          have k8 : ok τ (4, 8) (o + 91) := r_Cb_text hw ao (by omega)
          refine z_s I (s_iload_n (pc' := 33) 1 rfl D_Cb_feed_0.2.2.2.2 rfl rfl) ?_
          refine z_b2 (fun r11 h12 q10 => ?_)
          refine z_callV (pc' := 36) I mv_Text_append ml_Cb_145 (fun ad => [vI x1]) ⟨Nat.le_of_ble_eq_true rfl, Nat.le_of_ble_eq_true rfl⟩ k8 (fun hh => c_Text_append hw k8 ax1 hh q10) rfl rfl (Nat.le_of_ble_eq_true rfl) D_Cb_feed_1.1 rfl (fun f9 => ?_)
          exact z_ret (w := some (vI r11)) I (fun g => gk0 _ _ g f9) ⟨_, rfl⟩ D_Cb_feed_1.2 rfl
        · refine z_s I (s_bipush (pc' := 25) D_Cb_feed_0.2.1.2.2 rfl rfl) ?_
          refine z_s I (s_goto (tgt := 36) D_Cb_feed_0.2.2.1.1 rfl) ?_
          exact z_ret (w := some (vI (-4))) I (fun g => gk0 _ _ g (inR_c (x := (-4)) rfl)) ⟨_, rfl⟩ D_Cb_feed_1.2 rfl
      · refine z_s I (s_bipush (pc' := 12) D_Cb_feed_0.1.2.1.2 rfl rfl) ?_
        exact z_ret (w := some (vI (-2))) I (fun g => gk0 _ _ g (inR_c (x := (-2)) rfl)) ⟨_, rfl⟩ D_Cb_feed_0.1.2.2.1 rfl
  exact main _ hF (by rw [hG0])
set_option maxHeartbeats 4000000 in
set_option maxRecDepth 20000 in
theorem c_Text_isLetter {l : Launch} {τ : TP} {x0 : Int} {h : HP} {r : Int} (hw : wf τ) (ax0 : inR x0) (hh : hr τ h) (hF : m_Text_isLetter x0 h = some r) : Ctr l y_Text_isLetter k_Text_isLetter 1 (Option.some FieldType.boolean) 0 0 τ (fun ad => [vI x0]) h (some (vI r)) h (b01 r) := by
  refine ctr_of (by decide) hw hh (fun ad => Nat.le_of_ble_eq_true rfl) (fun ad K Y I hK => ?_)
  obtain ⟨G0, hG0⟩ : ∃ G : Int → Prop, G = fun x => x = r := ⟨_, rfl⟩
  have gk0 : ∀ (x : Int), G0 x → b01 x → K (some (vI x)) h := fun x g q => by
    rw [hG0] at g
    cases g
    exact hK q
  have main : Z Y (m_Text_isLetter x0 h) G0 h 0 [(0, vI x0)] [] := by
    unfold m_Text_isLetter
    refine z_s I (s_iload_n (pc' := 1) 0 rfl D_Text_isLetter_0.1.1.1 rfl rfl) ?_
    refine z_s I (s_bipush (pc' := 3) D_Text_isLetter_0.1.1.2.1 rfl rfl) ?_
    refine z_icmp_eq (tgt := 18) (pc' := 6) I ax0 (inR_c (x := 45) rfl) D_Text_isLetter_0.1.1.2.2 rfl rfl (fun c1 => ?_) (fun c1 => ?_)
    · refine z_s I (s_iconst (pc' := 19) D_Text_isLetter_0.2.2.1.1 rfl) ?_
      refine z_s I (s_goto (tgt := 23) D_Text_isLetter_0.2.2.1.2 rfl) ?_
      exact z_ret (w := some (vI 1)) I (fun g => gk0 _ g bz1) ⟨_, bz1, rfl⟩ D_Text_isLetter_0.2.2.2.2 rfl
    · refine z_s I (s_iload_n (pc' := 7) 0 rfl D_Text_isLetter_0.1.2.1 rfl rfl) ?_
      refine z_s I (s_bipush (pc' := 9) D_Text_isLetter_0.1.2.2.1 rfl rfl) ?_
      refine z_icmp_lt (tgt := 22) (pc' := 12) I ax0 (inR_c (x := 97) rfl) D_Text_isLetter_0.1.2.2.2 rfl rfl (fun c2 => ?_) (fun c2 => ?_)
      · refine z_s I (s_iconst (pc' := 23) D_Text_isLetter_0.2.2.2.1 rfl) ?_
        exact z_ret (w := some (vI 0)) I (fun g => gk0 _ g bz0) ⟨_, bz0, rfl⟩ D_Text_isLetter_0.2.2.2.2 rfl
      · refine z_s I (s_iload_n (pc' := 13) 0 rfl D_Text_isLetter_0.2.1.1 rfl rfl) ?_
        refine z_s I (s_bipush (pc' := 15) D_Text_isLetter_0.2.1.2.1 rfl rfl) ?_
        refine z_icmp_gt (tgt := 22) (pc' := 18) I ax0 (inR_c (x := 100) rfl) D_Text_isLetter_0.2.1.2.2 rfl rfl (fun c3 => ?_) (fun c3 => ?_)
        · refine z_s I (s_iconst (pc' := 23) D_Text_isLetter_0.2.2.2.1 rfl) ?_
          exact z_ret (w := some (vI 0)) I (fun g => gk0 _ g bz0) ⟨_, bz0, rfl⟩ D_Text_isLetter_0.2.2.2.2 rfl
        · refine z_s I (s_iconst (pc' := 19) D_Text_isLetter_0.2.2.1.1 rfl) ?_
          refine z_s I (s_goto (tgt := 23) D_Text_isLetter_0.2.2.1.2 rfl) ?_
          exact z_ret (w := some (vI 1)) I (fun g => gk0 _ g bz1) ⟨_, bz1, rfl⟩ D_Text_isLetter_0.2.2.2.2 rfl
  exact main _ hF (by rw [hG0])
set_option maxHeartbeats 4000000 in
set_option maxRecDepth 20000 in
theorem c_Text_examine {l : Launch} {τ : TP} {o : Int} {r1 : Int} {h : HP} {r : Int} (hw : wf τ) (ao : ok τ (4, 8) o) (ar1 : ok τ (4, 1) r1) (hh : hr τ h) (hF : m_Text_examine o r1 h = some r) : Ctr l y_Text_examine k_Text_examine 6 (Option.some FieldType.int) 1 21 τ (fun ad => [vR ad o, vR ad r1]) h (some (vI r)) h (inR r) := by
  refine ctr_of (by decide) hw hh (fun ad => Nat.le_of_ble_eq_true rfl) (fun ad K Y I hK => ?_)
  obtain ⟨G0, hG0⟩ : ∃ G : Int → Prop, G = fun x => x = r := ⟨_, rfl⟩
  have gk0 : ∀ (x : Int), G0 x → inR x → K (some (vI x)) h := fun x g q => by
    rw [hG0] at g
    cases g
    exact hK q
  have J109 : ∀ (x2 : Int) (ax2 : inR x2) (x3 : Int) (ax3 : inR x3), Z Y (m_Text_examine_J109 o x2 x3 h) G0 h 109 [(0, vR ad o), (2, vI x2), (3, vI x3)] [] := by
    intro x2 ax2 x3 ax3
    unfold m_Text_examine_J109
    refine z_s I (s_iload_n (pc' := 110) 2 rfl D_Text_examine_3.2.1.1.1 rfl rfl) ?_
    refine z_if_le (tgt := 117) (pc' := 113) I ax3 D_Text_examine_3.2.1.1.2 rfl rfl (fun c1 => ?_) (fun c1 => ?_)
    · refine z_s I (s_bipush (pc' := 119) D_Text_examine_3.2.2.1.1 rfl rfl) ?_
      refine z_s I (s_aload_n (pc' := 120) 0 rfl D_Text_examine_3.2.2.1.2 rfl rfl) ?_
      refine z_getI (pc' := 123) (jI := 0) I g_Text_9 ao rfl rfl D_Text_examine_3.2.2.2.1 rfl (fun f2 => ?_)
      refine z_s I (s_isub (pc' := 124) D_Text_examine_3.2.2.2.2 rfl) ?_
      exact z_ret (w := some (vI (w32 ((-10) - (h o 0))))) I (fun g => gk0 _ g (inR_w32 _)) ⟨_, rfl⟩ D_Text_examine_4 rfl
    · refine z_s I (s_iload_n (pc' := 114) 1 rfl D_Text_examine_3.2.1.2.1 rfl rfl) ?_
      refine z_s I (s_goto (tgt := 124) D_Text_examine_3.2.1.2.2 rfl) ?_
      exact z_ret (w := some (vI x2)) I (fun g => gk0 _ g ax2) ⟨_, rfl⟩ D_Text_examine_4 rfl
  have L7 : ∀ (s : Int × Int × Int), (inR (s.1) ∧ inR (s.2.1) ∧ inR (s.2.2)) → Z Y (m_Text_examine_L7 o r1 h s) G0 h 7 [(0, vR ad o), (1, vR ad r1), (2, vI (s.1)), (3, vI (s.2.1)), (4, vI (s.2.2))] [] := by
    intro s hs
    refine z_loop (G := G0) (hO := fun s : Int × Int × Int => h) (lO := fun s : Int × Int × Int => [(0, vR ad o), (1, vR ad r1), (2, vI (s.1)), (3, vI (s.2.1)), (4, vI (s.2.2))]) (Φ := fun s : Int × Int × Int => inR (s.1) ∧ inR (s.2.1) ∧ inR (s.2.2)) (fun G1 hin1_1 hout1 s hs => ?_) FUEL s hs
    obtain ⟨x2, x3, x4⟩ := s
    obtain ⟨ax2, ax3, ax4⟩ := hs
    have gk1 := fun (x : Int) (g : G1 (.inr (x))) (q : inR x) => gk0 x (hout1 _ g) q
    have J76 : ∀ (x2 : Int) (ax2 : inR x2) (x3 : Int) (ax3 : inR x3) (x4 : Int) (ax4 : inR x4) (x5 : Int) (ax5 : inR x5), Z Y (m_Text_examine_J76 o r1 x2 x3 x4 x5 h) G1 h 76 [(0, vR ad o), (1, vR ad r1), (2, vI x2), (3, vI x3), (4, vI x4), (5, vI x5)] [] := by
      intro x2 ax2 x3 ax3 x4 ax4 x5 ax5
      unfold m_Text_examine_J76
      refine z_s I (s_iload_n (pc' := 77) 3 rfl D_Text_examine_2.1.2.2.2 rfl rfl) ?_
      refine z_if_le (tgt := 97) (pc' := 80) I ax3 D_Text_examine_2.2.1.1.1 rfl rfl (fun c3 => ?_) (fun c3 => ?_)
      · refine z_s I (s_bipush (pc' := 99) D_Text_examine_3.1.1.2.1 rfl rfl) ?_
        refine z_s I (s_iload (pc' := 101) 4 rfl D_Text_examine_3.1.1.2.2 rfl) ?_
        refine z_s I (s_isub (pc' := 102) D_Text_examine_3.1.2.1.1 rfl) ?_
        exact z_ret (w := some (vI (w32 ((-10) - x4)))) I (fun g => gk1 _ g (inR_w32 _)) ⟨_, rfl⟩ D_Text_examine_3.1.2.1.2 rfl
      · refine z_s I (s_iload (pc' := 82) 5 rfl D_Text_examine_2.2.1.1.2 rfl) ?_
        refine z_s I (s_bipush (pc' := 84) D_Text_examine_2.2.1.2.1 rfl rfl) ?_
        refine z_icmp_ne (tgt := 97) (pc' := 87) I ax5 (inR_c (x := 59) rfl) D_Text_examine_2.2.1.2.2 rfl rfl (fun c4 => ?_) (fun c4 => ?_)
        · refine z_s I (s_bipush (pc' := 99) D_Text_examine_3.1.1.2.1 rfl rfl) ?_
          refine z_s I (s_iload (pc' := 101) 4 rfl D_Text_examine_3.1.1.2.2 rfl) ?_
          refine z_s I (s_isub (pc' := 102) D_Text_examine_3.1.2.1.1 rfl) ?_
          exact z_ret (w := some (vI (w32 ((-10) - x4)))) I (fun g => gk1 _ g (inR_w32 _)) ⟨_, rfl⟩ D_Text_examine_3.1.2.1.2 rfl
        · refine z_s I (s_iload_n (pc' := 88) 2 rfl D_Text_examine_2.2.2.1.1 rfl rfl) ?_
          refine z_s I (s_iconst (pc' := 89) D_Text_examine_2.2.2.1.2 rfl) ?_
          refine z_icmp_ge (tgt := 97) (pc' := 92) I ax2 (inR_c (x := 4) rfl) D_Text_examine_2.2.2.2.1 rfl rfl (fun c5 => ?_) (fun c5 => ?_)
          · refine z_s I (s_bipush (pc' := 99) D_Text_examine_3.1.1.2.1 rfl rfl) ?_
            refine z_s I (s_iload (pc' := 101) 4 rfl D_Text_examine_3.1.1.2.2 rfl) ?_
            refine z_s I (s_isub (pc' := 102) D_Text_examine_3.1.2.1.1 rfl) ?_
            exact z_ret (w := some (vI (w32 ((-10) - x4)))) I (fun g => gk1 _ g (inR_w32 _)) ⟨_, rfl⟩ D_Text_examine_3.1.2.1.2 rfl
          · refine z_s I (s_iconst (pc' := 93) D_Text_examine_2.2.2.2.2 rfl) ?_
            refine z_s I (s_istore_n (pc' := 94) (lv' := [(3, vI (-1)), (0, vR ad o), (1, vR ad r1), (2, vI x2), (4, vI x4), (5, vI x5)]) D_Text_examine_3.1.1.1.1 rfl (by decide) rfl rfl) ?_
            refine z_s I (s_goto (tgt := 103) D_Text_examine_3.1.1.1.2 rfl) ?_
            refine z_s I (s_iinc (pc' := 106) (lv' := [(4, vI (w32 (x4 + 1))), (3, vI (-1)), (0, vR ad o), (1, vR ad r1), (2, vI x2), (5, vI x5)]) (n := 4) rfl D_Text_examine_3.1.2.2.1 (by decide) rfl rfl) ?_
            refine z_s I (s_goto (tgt := 7) D_Text_examine_3.1.2.2.2 rfl) ?_
            refine z_s I (s_lv (lv' := [(0, vR ad o), (1, vR ad r1), (2, vI x2), (3, vI (-1)), (4, vI (w32 (x4 + 1)))]) [2, 3, 4, 1, 0] rfl) ?_
            exact z_end (fun g => hin1_1 _ g ⟨ax2, (inR_c (x := (-1)) rfl), (inR_w32 _)⟩)
    have J50 : ∀ (x2 : Int) (ax2 : inR x2) (x3 : Int) (ax3 : inR x3) (x4 : Int) (ax4 : inR x4) (x5 : Int) (ax5 : inR x5), Z Y (m_Text_examine_J50 o r1 x2 x3 x4 x5 h) G1 h 50 [(0, vR ad o), (1, vR ad r1), (2, vI x2), (3, vI x3), (4, vI x4), (5, vI x5)] [] := by
      intro x2 ax2 x3 ax3 x4 ax4 x5 ax5
      unfold m_Text_examine_J50
      refine z_s I (s_iload_n (pc' := 51) 3 rfl D_Text_examine_1.2.2.1.1 rfl rfl) ?_
      refine z_if_lt (tgt := 76) (pc' := 54) I ax3 D_Text_examine_1.2.2.1.2 rfl rfl (fun c6 => ?_) (fun c6 => ?_)
      · exact J76 _ ax2 _ ax3 _ ax4 _ ax5
      · refine z_s I (s_iload_n (pc' := 55) 3 rfl D_Text_examine_1.2.2.2.1 rfl rfl) ?_
        refine z_s I (s_aload_n (pc' := 56) 1 rfl D_Text_examine_1.2.2.2.2 rfl rfl) ?_
        refine z_getI (pc' := 59) (jI := 0) I g_Text_25 ar1 rfl rfl D_Text_examine_2.1.1.1.1 rfl (fun f7 => ?_)
        refine z_icmp_ge (tgt := 76) (pc' := 62) I ax3 f7 D_Text_examine_2.1.1.1.2 rfl rfl (fun c8 => ?_) (fun c8 => ?_)
        · exact J76 _ ax2 _ ax3 _ ax4 _ ax5
        · refine z_s I (s_iload (pc' := 64) 5 rfl D_Text_examine_2.1.1.2.1 rfl) ?_
          refine z_b1 (fun r11 q10 => ?_)
          refine z_callS (pc' := 67) I mv_Text_isLetter ml_Text_28 (fun ad => [vI x5]) ⟨Nat.le_of_ble_eq_true rfl, Nat.le_of_ble_eq_true rfl⟩ (fun hh => c_Text_isLetter hw ax5 hh q10) rfl rfl (Nat.le_of_ble_eq_true rfl) D_Text_examine_2.1.1.2.2 rfl (fun f9 => ?_)
          refine z_if_eq (tgt := 76) (pc' := 70) I (b01.R f9) D_Text_examine_2.1.2.1.1 rfl rfl (fun c12 => ?_) (fun c12 => ?_)
          · exact J76 _ ax2 _ ax3 _ ax4 _ ax5
          · refine z_s I (s_iinc (pc' := 73) (lv' := [(3, vI (w32 (x3 + 1))), (0, vR ad o), (1, vR ad r1), (2, vI x2), (4, vI x4), (5, vI x5)]) (n := 3) rfl D_Text_examine_2.1.2.1.2 (by decide) rfl rfl) ?_
            refine z_s I (s_goto (tgt := 103) D_Text_examine_2.1.2.2.1 rfl) ?_
            refine z_s I (s_iinc (pc' := 106) (lv' := [(4, vI (w32 (x4 + 1))), (3, vI (w32 (x3 + 1))), (0, vR ad o), (1, vR ad r1), (2, vI x2), (5, vI x5)]) (n := 4) rfl D_Text_examine_3.1.2.2.1 (by decide) rfl rfl) ?_
            refine z_s I (s_goto (tgt := 7) D_Text_examine_3.1.2.2.2 rfl) ?_
            refine z_s I (s_lv (lv' := [(0, vR ad o), (1, vR ad r1), (2, vI x2), (3, vI (w32 (x3 + 1))), (4, vI (w32 (x4 + 1)))]) [2, 3, 4, 1, 0] rfl) ?_
            exact z_end (fun g => hin1_1 _ g ⟨ax2, (inR_w32 _), (inR_w32 _)⟩)
    show Z Y (m_Text_examine_L7b o r1 h x2 x3 x4) G1 h 7 [(0, vR ad o), (1, vR ad r1), (2, vI x2), (3, vI x3), (4, vI x4)] []
    unfold m_Text_examine_L7b
    refine z_s I (s_iload (pc' := 9) 4 rfl D_Text_examine_0.1.2.2.1 rfl) ?_
    refine z_s I (s_aload_n (pc' := 10) 0 rfl D_Text_examine_0.1.2.2.2 rfl rfl) ?_
    refine z_getI (pc' := 13) (jI := 0) I g_Text_9 ao rfl rfl D_Text_examine_0.2.1.1.1 rfl (fun f13 => ?_)
    refine z_icmp_ge (tgt := 109) (pc' := 16) I ax4 f13 D_Text_examine_0.2.1.1.2 rfl rfl (fun c14 => ?_) (fun c14 => ?_)
    · refine z_map _ (fun x g => hout1 x g) ?_
      refine z_s I (s_lv (lv' := [(0, vR ad o), (2, vI x2), (3, vI x3)]) [0, 2, 3] rfl) ?_
      exact J109 _ ax2 _ ax3
    · refine z_s I (s_aload_n (pc' := 17) 0 rfl D_Text_examine_0.2.1.2.1 rfl rfl) ?_
      refine z_getR (pc' := 20) (eI := o + 1) I g_Text_15 ao rfl (by omega) D_Text_examine_0.2.1.2.2 rfl ?_
      have k15 : ok τ (0, 60) (o + 1) := r_Text_signs hw ao (by omega)
      refine z_s I (s_iload (pc' := 22) 4 rfl D_Text_examine_0.2.2.1.1 rfl) ?_
      refine z_iald (pc' := 23) (nI := 60) I k15 ax4 rfl D_Text_examine_0.2.2.1.2 rfl (fun c16 f17 => ?_)
      refine z_bI f17 (fun v18 e19 f20 => ?_)
      refine z_s I (s_istore (pc' := 25) (lv' := [(5, vI v18), (0, vR ad o), (1, vR ad r1), (2, vI x2), (3, vI x3), (4, vI x4)]) D_Text_examine_0.2.2.2.1 (by decide) rfl rfl) ?_
      refine z_s I (s_iload_n (pc' := 26) 4 rfl D_Text_examine_0.2.2.2.2 rfl rfl) ?_
      refine z_s I (s_iconst (pc' := 27) D_Text_examine_1.1.1.1.1 rfl) ?_
      refine z_icmp_ne (tgt := 50) (pc' := 30) I ax3 (inR_c (x := (-1)) rfl) D_Text_examine_1.1.1.1.2 rfl rfl (fun c21 => ?_) (fun c21 => ?_)
      · refine z_s I (s_lv (lv' := [(0, vR ad o), (1, vR ad r1), (2, vI x2), (3, vI x3), (4, vI x4), (5, vI v18)]) [1, 2, 3, 4, 5, 0] rfl) ?_
        exact J50 _ ax2 _ ax3 _ ax4 _ f20
      · refine z_s I (s_aload_n (pc' := 31) 2 rfl D_Text_examine_1.1.1.2.1 rfl rfl) ?_
        refine z_s I (s_iload (pc' := 33) 0 rfl D_Text_examine_1.1.1.2.2 rfl) ?_
        refine z_s I (s_bipush (pc' := 35) D_Text_examine_1.1.2.1.1 rfl rfl) ?_
        refine z_s I (s_isub (pc' := 36) D_Text_examine_1.1.2.1.2 rfl) ?_
        refine z_b1 (fun r24 q23 => ?_)
        refine z_callV (pc' := 39) I mv_Exam_hasCandidate ml_Text_19 (fun ad => [vI (w32 (v18 - 48))]) ⟨Nat.le_of_ble_eq_true rfl, Nat.le_of_ble_eq_true rfl⟩ ar1 (fun hh => c_Exam_hasCandidate hw ar1 (inR_w32 _) hh q23) rfl rfl (Nat.le_of_ble_eq_true rfl) D_Text_examine_1.1.2.2.1 rfl (fun f22 => ?_)
        refine z_if_eq (tgt := 50) (pc' := 42) I (b01.R f22) D_Text_examine_1.1.2.2.2 rfl rfl (fun c25 => ?_) (fun c25 => ?_)
        · refine z_s I (s_lv (lv' := [(0, vR ad o), (1, vR ad r1), (2, vI x2), (3, vI x3), (4, vI x4), (5, vI v18)]) [1, 2, 3, 4, 5, 0] rfl) ?_
          exact J50 _ ax2 _ ax3 _ ax4 _ f20
        · refine z_s I (s_iconst (pc' := 43) D_Text_examine_1.2.1.1.1 rfl) ?_
          refine z_s I (s_istore_n (pc' := 44) (lv' := [(3, vI 0), (5, vI v18), (0, vR ad o), (1, vR ad r1), (2, vI x2), (4, vI x4)]) D_Text_examine_1.2.1.1.2 rfl (by decide) rfl rfl) ?_
          refine z_s I (s_iinc (pc' := 47) (lv' := [(2, vI (w32 (x2 + 1))), (3, vI 0), (5, vI v18), (0, vR ad o), (1, vR ad r1), (4, vI x4)]) (n := 4) rfl D_Text_examine_1.2.1.2.1 (by decide) rfl rfl) ?_
          refine z_s I (s_goto (tgt := 103) D_Text_examine_1.2.1.2.2 rfl) ?_
          refine z_s I (s_iinc (pc' := 106) (lv' := [(4, vI (w32 (x4 + 1))), (2, vI (w32 (x2 + 1))), (3, vI 0), (5, vI v18), (0, vR ad o), (1, vR ad r1)]) (n := 5) rfl D_Text_examine_3.1.2.2.1 (by decide) rfl rfl) ?_
          refine z_s I (s_goto (tgt := 7) D_Text_examine_3.1.2.2.2 rfl) ?_
          refine z_s I (s_lv (lv' := [(0, vR ad o), (1, vR ad r1), (2, vI (w32 (x2 + 1))), (3, vI 0), (4, vI (w32 (x4 + 1)))]) [4, 5, 1, 2, 0] rfl) ?_
          exact z_end (fun g => hin1_1 _ g ⟨(inR_w32 _), (b01.R bz0), (inR_w32 _)⟩)
  have main : Z Y (m_Text_examine o r1 h) G0 h 0 [(0, vR ad o), (1, vR ad r1)] [] := by
    unfold m_Text_examine
    refine z_s I (s_iconst (pc' := 1) D_Text_examine_0.1.1.1.1 rfl) ?_
    refine z_s I (s_istore_n (pc' := 2) (lv' := [(2, vI 0), (0, vR ad o), (1, vR ad r1)]) D_Text_examine_0.1.1.1.2 rfl (by decide) rfl rfl) ?_
    refine z_s I (s_iconst (pc' := 3) D_Text_examine_0.1.1.2.1 rfl) ?_
    refine z_s I (s_istore_n (pc' := 4) (lv' := [(3, vI (-1)), (2, vI 0), (0, vR ad o), (1, vR ad r1)]) D_Text_examine_0.1.1.2.2 rfl (by decide) rfl rfl) ?_
    refine z_s I (s_iconst (pc' := 5) D_Text_examine_0.1.2.1.1 rfl) ?_
    refine z_s I (s_istore (pc' := 7) (lv' := [(4, vI 0), (3, vI (-1)), (2, vI 0), (0, vR ad o), (1, vR ad r1)]) D_Text_examine_0.1.2.1.2 (by decide) rfl rfl) ?_
    refine z_s I (s_lv (lv' := [(0, vR ad o), (1, vR ad r1), (2, vI 0), (3, vI (-1)), (4, vI 0)]) [3, 4, 2, 1, 0] rfl) ?_
    exact L7 _ ⟨(b01.R bz0), (inR_c (x := (-1)) rfl), (b01.R bz0)⟩
  exact main _ hF (by rw [hG0])
set_option maxHeartbeats 4000000 in
set_option maxRecDepth 20000 in
theorem c_Text_tell {l : Launch} {τ : TP} {o : Int} {r1 : Int} {h : HP} {h' : HP} (hw : wf τ) (ao : ok τ (4, 8) o) (ar1 : ok τ (4, 1) r1) (hh : hr τ h) (hF : m_Text_tell o r1 h = some h') : Ctr l y_Text_tell k_Text_tell 6 (Option.none : Option FieldType) 1 21 τ (fun ad => [vR ad o, vR ad r1]) h none h' (True) := by
  refine ctr_of (by decide) hw hh (fun ad => Nat.le_of_ble_eq_true rfl) (fun ad K Y I hK => ?_)
  obtain ⟨G0, hG0⟩ : ∃ G : HP → Prop, G = fun x => x = h' := ⟨_, rfl⟩
  have gk0 : ∀ (x : HP), G0 x → K none x := fun x g => by
    rw [hG0] at g
    cases g
    exact hK trivial
  have L7 : ∀ (s : Int × Int × Int × HP), (inR (s.1) ∧ inR (s.2.1) ∧ inR (s.2.2.1)) → Z Y (m_Text_tell_L7 o r1 s) G0 (s.2.2.2) 7 [(0, vR ad o), (1, vR ad r1), (2, vI (s.1)), (3, vI (s.2.1)), (4, vI (s.2.2.1))] [] := by
    intro s hs
    refine z_loop (G := G0) (hO := fun s : Int × Int × Int × HP => s.2.2.2) (lO := fun s : Int × Int × Int × HP => [(0, vR ad o), (1, vR ad r1), (2, vI (s.1)), (3, vI (s.2.1)), (4, vI (s.2.2.1))]) (Φ := fun s : Int × Int × Int × HP => inR (s.1) ∧ inR (s.2.1) ∧ inR (s.2.2.1)) (fun G1 hin1_1 hout1 s hs => ?_) FUEL s hs
    obtain ⟨x2, x3, x4, h⟩ := s
    obtain ⟨ax2, ax3, ax4⟩ := hs
    have gk1 := fun (x : HP) (g : G1 (.inr (x))) => gk0 x (hout1 _ g)
    have J92 : ∀ (x2 : Int) (ax2 : inR x2) (x3 : Int) (ax3 : inR x3) (x4 : Int) (ax4 : inR x4) (s0 : Int) (as0 : ok τ (0, 8) s0) (s1 : Int) (as1 : inR s1) (s2 : Int) (as2 : inR s2) (h : HP), Z Y (m_Text_tell_J92 o r1 x2 x3 x4 s0 s1 s2 h) G1 h 92 [(0, vR ad o), (1, vR ad r1), (2, vI x2), (3, vI x3), (4, vI x4)] [vI s2, vI s1, vR ad s0] := by
      intro x2 ax2 x3 ax3 x4 ax4 s0 as0 s1 as1 s2 as2 h
      unfold m_Text_tell_J92
      refine z_iast (pc' := 93) (nI := 8) I as0 as1 as2 rfl D_Text_tell_3.2.1.1 rfl (fun c1 => ?_)
      refine z_bH (fun h2 e3 => ?_)
      refine z_s I (s_iinc (pc' := 96) (lv' := [(3, vI (w32 (x3 + 1))), (0, vR ad o), (1, vR ad r1), (2, vI x2), (4, vI x4)]) (n := 3) rfl D_Text_tell_3.2.1.2 (by decide) rfl rfl) ?_
      refine z_s I (s_iinc (pc' := 99) (lv' := [(4, vI (w32 (x4 + 1))), (3, vI (w32 (x3 + 1))), (0, vR ad o), (1, vR ad r1), (2, vI x2)]) (n := 4) rfl D_Text_tell_3.2.2.1 (by decide) rfl rfl) ?_
      refine z_s I (s_goto (tgt := 7) D_Text_tell_3.2.2.2.1 rfl) ?_
      refine z_s I (s_lv (lv' := [(0, vR ad o), (1, vR ad r1), (2, vI x2), (3, vI (w32 (x3 + 1))), (4, vI (w32 (x4 + 1)))]) [2, 3, 4, 1, 0] rfl) ?_
      exact z_end (fun g => hin1_1 _ g ⟨ax2, (inR_w32 _), (inR_w32 _)⟩)
    show Z Y (m_Text_tell_L7b o r1 x2 x3 x4 h) G1 h 7 [(0, vR ad o), (1, vR ad r1), (2, vI x2), (3, vI x3), (4, vI x4)] []
    unfold m_Text_tell_L7b
    refine z_s I (s_iload (pc' := 9) 4 rfl D_Text_tell_0.1.2.2.1 rfl) ?_
    refine z_s I (s_aload_n (pc' := 10) 0 rfl D_Text_tell_0.1.2.2.2 rfl rfl) ?_
    refine z_getI (pc' := 13) (jI := 0) I g_Text_9 ao rfl rfl D_Text_tell_0.2.1.1.1 rfl (fun f4 => ?_)
    refine z_icmp_ge (tgt := 102) (pc' := 16) I ax4 f4 D_Text_tell_0.2.1.1.2 rfl rfl (fun c5 => ?_) (fun c5 => ?_)
    · exact z_ret (w := none) I (fun g => gk1 _ g) rfl D_Text_tell_3.2.2.2.2 rfl
    · refine z_s I (s_aload_n (pc' := 17) 0 rfl D_Text_tell_0.2.1.2.1 rfl rfl) ?_
      refine z_getR (pc' := 20) (eI := o + 1) I g_Text_15 ao rfl (by omega) D_Text_tell_0.2.1.2.2 rfl ?_
      have k6 : ok τ (0, 60) (o + 1) := r_Text_signs hw ao (by omega)
      refine z_s I (s_iload (pc' := 22) 4 rfl D_Text_tell_0.2.2.1.1 rfl) ?_
      refine z_iald (pc' := 23) (nI := 60) I k6 ax4 rfl D_Text_tell_0.2.2.1.2 rfl (fun c7 f8 => ?_)
      refine z_bI f8 (fun v9 e10 f11 => ?_)
      refine z_s I (s_istore (pc' := 25) (lv' := [(5, vI v9), (0, vR ad o), (1, vR ad r1), (2, vI x2), (3, vI x3), (4, vI x4)]) D_Text_tell_0.2.2.2.1 (by decide) rfl rfl) ?_
      refine z_s I (s_iload (pc' := 27) 0 rfl D_Text_tell_0.2.2.2.2 rfl) ?_
      refine z_s I (s_bipush (pc' := 29) D_Text_tell_1.1.1.1.1 rfl rfl) ?_
      refine z_icmp_ne (tgt := 37) (pc' := 32) I f11 (inR_c (x := 59) rfl) D_Text_tell_1.1.1.1.2 rfl rfl (fun c12 => ?_) (fun c12 => ?_)
      · refine z_s I (s_iload_n (pc' := 38) 3 rfl D_Text_tell_1.1.2.1.2 rfl rfl) ?_
        refine z_s I (s_iconst (pc' := 39) D_Text_tell_1.1.2.2.1 rfl) ?_
        refine z_icmp_ne (tgt := 53) (pc' := 42) I ax2 (inR_c (x := (-1)) rfl) D_Text_tell_1.1.2.2.2 rfl rfl (fun c13 => ?_) (fun c13 => ?_)
        · refine z_s I (s_aload_n (pc' := 54) 2 rfl D_Text_tell_1.2.2.2.2 rfl rfl) ?_
          refine z_s I (s_iload_n (pc' := 55) 3 rfl D_Text_tell_2.1.1.1.1 rfl rfl) ?_
          refine z_b1 (fun r16 q15 => ?_)
          refine z_callV (pc' := 58) I mv_Exam_hasCandidate ml_Text_19 (fun ad => [vI x2]) ⟨Nat.le_of_ble_eq_true rfl, Nat.le_of_ble_eq_true rfl⟩ ar1 (fun hh => c_Exam_hasCandidate hw ar1 ax2 hh q15) rfl rfl (Nat.le_of_ble_eq_true rfl) D_Text_tell_2.1.1.1.2 rfl (fun f14 => ?_)
          refine z_if_eq (tgt := 96) (pc' := 61) I (b01.R f14) D_Text_tell_2.1.1.2.1 rfl rfl (fun c17 => ?_) (fun c17 => ?_)
          · refine z_s I (s_iinc (pc' := 99) (lv' := [(4, vI (w32 (x4 + 1))), (5, vI v9), (0, vR ad o), (1, vR ad r1), (2, vI x2), (3, vI x3)]) (n := 5) rfl D_Text_tell_3.2.2.1 (by decide) rfl rfl) ?_
            refine z_s I (s_goto (tgt := 7) D_Text_tell_3.2.2.2.1 rfl) ?_
            refine z_s I (s_lv (lv' := [(0, vR ad o), (1, vR ad r1), (2, vI x2), (3, vI x3), (4, vI (w32 (x4 + 1)))]) [2, 3, 4, 5, 0] rfl) ?_
            exact z_end (fun g => hin1_1 _ g ⟨ax2, ax3, (inR_w32 _)⟩)
          · refine z_s I (s_aload_n (pc' := 62) 2 rfl D_Text_tell_2.1.1.2.2 rfl rfl) ?_
            refine z_s I (s_iload_n (pc' := 63) 4 rfl D_Text_tell_2.1.2.1.1 rfl rfl) ?_
            refine z_b1 (fun r20 q19 => ?_)
            refine z_callV (pc' := 66) I mv_Exam_hasItem ml_Text_31 (fun ad => [vI x3]) ⟨Nat.le_of_ble_eq_true rfl, Nat.le_of_ble_eq_true rfl⟩ ar1 (fun hh => c_Exam_hasItem hw ar1 ax3 hh q19) rfl rfl (Nat.le_of_ble_eq_true rfl) D_Text_tell_2.1.2.1.2 rfl (fun f18 => ?_)
            refine z_if_eq (tgt := 96) (pc' := 69) I (b01.R f18) D_Text_tell_2.1.2.2.1 rfl rfl (fun c21 => ?_) (fun c21 => ?_)
            · refine z_s I (s_iinc (pc' := 99) (lv' := [(4, vI (w32 (x4 + 1))), (5, vI v9), (0, vR ad o), (1, vR ad r1), (2, vI x2), (3, vI x3)]) (n := 5) rfl D_Text_tell_3.2.2.1 (by decide) rfl rfl) ?_
              refine z_s I (s_goto (tgt := 7) D_Text_tell_3.2.2.2.1 rfl) ?_
              refine z_s I (s_lv (lv' := [(0, vR ad o), (1, vR ad r1), (2, vI x2), (3, vI x3), (4, vI (w32 (x4 + 1)))]) [2, 3, 4, 5, 0] rfl) ?_
              exact z_end (fun g => hin1_1 _ g ⟨ax2, ax3, (inR_w32 _)⟩)
            · refine z_s I (s_aload_n (pc' := 70) 2 rfl D_Text_tell_2.1.2.2.2 rfl rfl) ?_
              refine z_getR (pc' := 73) (eI := r1 + 12) I g_Text_34 ar1 rfl (by omega) D_Text_tell_2.2.1.1.1 rfl ?_
              have k22 : ok τ (3, 1) (r1 + 12) := r_Exam_given hw ar1 (by omega)
              refine z_s I (s_iload_n (pc' := 74) 3 rfl D_Text_tell_2.2.1.1.2 rfl rfl) ?_
              refine z_aald (pc' := 75) (eI := r1 + x2 + 13) I 8 1 1 k22 ax2 rfl rfl rfl (by omega) D_Text_tell_2.2.1.2.1 rfl (fun c23 => ?_)
              have k24 : ok τ (0, 8) (r1 + x2 + 13) := e_1 hw k22 c23 (by omega)
              refine z_s I (s_iload_n (pc' := 76) 4 rfl D_Text_tell_2.2.1.2.2 rfl rfl) ?_
              refine z_s I (s_iload (pc' := 78) 0 rfl D_Text_tell_2.2.2.1.1 rfl) ?_
              refine z_s I (s_bipush (pc' := 80) D_Text_tell_2.2.2.1.2 rfl rfl) ?_
              refine z_icmp_ne (tgt := 87) (pc' := 83) I f11 (inR_c (x := 45) rfl) D_Text_tell_2.2.2.2.1 rfl rfl (fun c25 => ?_) (fun c25 => ?_)
              · refine z_s I (s_iload (pc' := 89) 0 rfl D_Text_tell_3.1.1.2 rfl) ?_
                refine z_s I (s_bipush (pc' := 91) D_Text_tell_3.1.2.1 rfl rfl) ?_
                refine z_s I (s_isub (pc' := 92) D_Text_tell_3.1.2.2 rfl) ?_
                refine z_s I (s_lv (lv' := [(0, vR ad o), (1, vR ad r1), (2, vI x2), (3, vI x3), (4, vI x4)]) [1, 2, 3, 4, 5] rfl) ?_
                exact J92 _ ax2 _ ax3 _ ax4 _ k24 _ ax3 _ (inR_w32 _) _
              · refine z_s I (s_iconst (pc' := 84) D_Text_tell_2.2.2.2.2 rfl) ?_
                refine z_s I (s_goto (tgt := 92) D_Text_tell_3.1.1.1 rfl) ?_
                refine z_s I (s_lv (lv' := [(0, vR ad o), (1, vR ad r1), (2, vI x2), (3, vI x3), (4, vI x4)]) [1, 2, 3, 4, 5] rfl) ?_
                exact J92 _ ax2 _ ax3 _ ax4 _ k24 _ ax3 _ (inR_c (x := (-1)) rfl) _
        · refine z_s I (s_iload (pc' := 44) 0 rfl D_Text_tell_1.2.1.1.1 rfl) ?_
          refine z_s I (s_bipush (pc' := 46) D_Text_tell_1.2.1.1.2 rfl rfl) ?_
          refine z_s I (s_isub (pc' := 47) D_Text_tell_1.2.1.2.1 rfl) ?_
          refine z_bI (inR_w32 _) (fun v26 e27 f28 => ?_)
          refine z_s I (s_istore_n (pc' := 48) (lv' := [(2, vI v26), (5, vI v9), (0, vR ad o), (1, vR ad r1), (3, vI x3), (4, vI x4)]) D_Text_tell_1.2.1.2.2 rfl (by decide) rfl rfl) ?_
          refine z_s I (s_iconst (pc' := 49) D_Text_tell_1.2.2.1.1 rfl) ?_
          refine z_s I (s_istore_n (pc' := 50) (lv' := [(3, vI 0), (2, vI v26), (5, vI v9), (0, vR ad o), (1, vR ad r1), (4, vI x4)]) D_Text_tell_1.2.2.1.2 rfl (by decide) rfl rfl) ?_
          refine z_s I (s_goto (tgt := 96) D_Text_tell_1.2.2.2.1 rfl) ?_
          refine z_s I (s_iinc (pc' := 99) (lv' := [(4, vI (w32 (x4 + 1))), (3, vI 0), (2, vI v26), (5, vI v9), (0, vR ad o), (1, vR ad r1)]) (n := 5) rfl D_Text_tell_3.2.2.1 (by decide) rfl rfl) ?_
          refine z_s I (s_goto (tgt := 7) D_Text_tell_3.2.2.2.1 rfl) ?_
          refine z_s I (s_lv (lv' := [(0, vR ad o), (1, vR ad r1), (2, vI v26), (3, vI 0), (4, vI (w32 (x4 + 1)))]) [4, 5, 2, 1, 0] rfl) ?_
          exact z_end (fun g => hin1_1 _ g ⟨f28, (b01.R bz0), (inR_w32 _)⟩)
      · refine z_s I (s_iconst (pc' := 33) D_Text_tell_1.1.1.2.1 rfl) ?_
        refine z_s I (s_istore_n (pc' := 34) (lv' := [(2, vI (-1)), (5, vI v9), (0, vR ad o), (1, vR ad r1), (3, vI x3), (4, vI x4)]) D_Text_tell_1.1.1.2.2 rfl (by decide) rfl rfl) ?_
        refine z_s I (s_goto (tgt := 96) D_Text_tell_1.1.2.1.1 rfl) ?_
        refine z_s I (s_iinc (pc' := 99) (lv' := [(4, vI (w32 (x4 + 1))), (2, vI (-1)), (5, vI v9), (0, vR ad o), (1, vR ad r1), (3, vI x3)]) (n := 5) rfl D_Text_tell_3.2.2.1 (by decide) rfl rfl) ?_
        refine z_s I (s_goto (tgt := 7) D_Text_tell_3.2.2.2.1 rfl) ?_
        refine z_s I (s_lv (lv' := [(0, vR ad o), (1, vR ad r1), (2, vI (-1)), (3, vI x3), (4, vI (w32 (x4 + 1)))]) [3, 4, 1, 5, 0] rfl) ?_
        exact z_end (fun g => hin1_1 _ g ⟨(inR_c (x := (-1)) rfl), ax3, (inR_w32 _)⟩)
  have main : Z Y (m_Text_tell o r1 h) G0 h 0 [(0, vR ad o), (1, vR ad r1)] [] := by
    unfold m_Text_tell
    refine z_s I (s_iconst (pc' := 1) D_Text_tell_0.1.1.1.1 rfl) ?_
    refine z_s I (s_istore_n (pc' := 2) (lv' := [(2, vI (-1)), (0, vR ad o), (1, vR ad r1)]) D_Text_tell_0.1.1.1.2 rfl (by decide) rfl rfl) ?_
    refine z_s I (s_iconst (pc' := 3) D_Text_tell_0.1.1.2.1 rfl) ?_
    refine z_s I (s_istore_n (pc' := 4) (lv' := [(3, vI 0), (2, vI (-1)), (0, vR ad o), (1, vR ad r1)]) D_Text_tell_0.1.1.2.2 rfl (by decide) rfl rfl) ?_
    refine z_s I (s_iconst (pc' := 5) D_Text_tell_0.1.2.1.1 rfl) ?_
    refine z_s I (s_istore (pc' := 7) (lv' := [(4, vI 0), (3, vI 0), (2, vI (-1)), (0, vR ad o), (1, vR ad r1)]) D_Text_tell_0.1.2.1.2 (by decide) rfl rfl) ?_
    refine z_s I (s_lv (lv' := [(0, vR ad o), (1, vR ad r1), (2, vI (-1)), (3, vI 0), (4, vI 0)]) [3, 4, 2, 1, 0] rfl) ?_
    exact L7 _ ⟨(inR_c (x := (-1)) rfl), (b01.R bz0), (b01.R bz0)⟩
  exact main _ hF (by rw [hG0])
set_option maxHeartbeats 4000000 in
set_option maxRecDepth 20000 in
theorem c_Text_empty {l : Launch} {τ : TP} {o : Int} {h : HP} {h' : HP} (hw : wf τ) (ao : ok τ (4, 8) o) (hh : hr τ h) (hF : m_Text_empty o h = some h') : Ctr l y_Text_empty k_Text_empty 1 (Option.none : Option FieldType) 0 0 τ (fun ad => [vR ad o]) h none h' (True) := by
  refine ctr_of (by decide) hw hh (fun ad => Nat.le_of_ble_eq_true rfl) (fun ad K Y I hK => ?_)
  obtain ⟨G0, hG0⟩ : ∃ G : HP → Prop, G = fun x => x = h' := ⟨_, rfl⟩
  have gk0 : ∀ (x : HP), G0 x → K none x := fun x g => by
    rw [hG0] at g
    cases g
    exact hK trivial
  have main : Z Y (m_Text_empty o h) G0 h 0 [(0, vR ad o)] [] := by
    unfold m_Text_empty
    refine z_s I (s_aload_n (pc' := 1) 0 rfl D_Text_empty_0.1.1 rfl rfl) ?_
    refine z_s I (s_iconst (pc' := 2) D_Text_empty_0.1.2 rfl) ?_
    refine z_putI (pc' := 5) (jI := 0) I p_Text_9 ao rfl rfl (b01.R bz0) D_Text_empty_0.2.1 rfl ?_
    refine z_bH (fun h1 e2 => ?_)
    exact z_ret (w := none) I (fun g => gk0 _ g) rfl D_Text_empty_0.2.2 rfl
  exact main _ hF (by rw [hG0])
set_option maxHeartbeats 4000000 in
set_option maxRecDepth 20000 in
theorem c_Cb_read {l : Launch} {τ : TP} {o : Int} {h : HP} {r : Int} {h' : HP} (hw : wf τ) (ao : ok τ (4, 9) o) (hh : hr τ h) (hF : m_Cb_read o h = some (r, h')) : Ctr l y_Cb_read k_Cb_read 2 (Option.some FieldType.int) 2 46 τ (fun ad => [vR ad o]) h (some (vI r)) h' (inR r) := by
  refine ctr_of (by decide) hw hh (fun ad => Nat.le_of_ble_eq_true rfl) (fun ad K Y I hK => ?_)
  obtain ⟨G0, hG0⟩ : ∃ G : Int × HP → Prop, G = fun x => x = (r, h') := ⟨_, rfl⟩
  have gk0 : ∀ (x : Int) (y : HP), G0 (x, y) → inR x → K (some (vI x)) y := fun x y g q => by
    rw [hG0] at g
    cases g
    exact hK q
  have J27 : ∀ (x1 : Int) (ax1 : inR x1) (h : HP), Z Y (m_Cb_read_J27 o x1 h) G0 h 27 [(0, vR ad o), (1, vI x1)] [] := by
    intro x1 ax1 h
    unfold m_Cb_read_J27
    refine z_s I (s_aload_n (pc' := 28) 0 rfl D_Cb_read_0.2.2.1.2 rfl rfl) ?_
    refine z_getR (pc' := 31) (eI := o + 91) I g_Cb_31 ao rfl (by omega) D_Cb_read_0.2.2.2.1 rfl ?_
    have k1 : ok τ (4, 8) (o + 91) := r_Cb_text hw ao (by omega)
    refine z_b1 (fun h4 q3 => ?_)
    refine z_callV (pc' := 34) I mv_Text_empty ml_Cb_156 (fun ad => []) ⟨Nat.le_of_ble_eq_true rfl, Nat.le_of_ble_eq_true rfl⟩ k1 (fun hh => c_Text_empty hw k1 hh q3) rfl rfl (Nat.le_of_ble_eq_true rfl) D_Cb_read_0.2.2.2.2 rfl (fun f2 => ?_)
    refine z_s I (s_iload_n (pc' := 35) 1 rfl D_Cb_read_1.1 rfl rfl) ?_
    exact z_ret (w := some (vI x1)) I (fun g => gk0 _ _ g ax1) ⟨_, rfl⟩ D_Cb_read_1.2 rfl
  have main : Z Y (m_Cb_read o h) G0 h 0 [(0, vR ad o)] [] := by
    unfold m_Cb_read
    refine z_s I (s_aload_n (pc' := 1) 0 rfl D_Cb_read_0.1.1.1.1 rfl rfl) ?_
    refine z_getR (pc' := 4) (eI := o + 91) I g_Cb_31 ao rfl (by omega) D_Cb_read_0.1.1.1.2 rfl ?_
    have k5 : ok τ (4, 8) (o + 91) := r_Cb_text hw ao (by omega)
    refine z_s I (s_aload_n (pc' := 5) 0 rfl D_Cb_read_0.1.1.2.1 rfl rfl) ?_
    refine z_getR (pc' := 8) (eI := o + 1) I g_Cb_12 ao rfl (by omega) D_Cb_read_0.1.1.2.2 rfl ?_
    have k6 : ok τ (4, 1) (o + 1) := r_Cb_now hw ao (by omega)
    refine z_b1 (fun r9 q8 => ?_)
    refine z_callV (pc' := 11) I mv_Text_examine ml_Cb_148 (fun ad => [vR ad (o + 1)]) ⟨Nat.le_of_ble_eq_true rfl, Nat.le_of_ble_eq_true rfl⟩ k5 (fun hh => c_Text_examine hw k5 k6 hh q8) rfl rfl (Nat.le_of_ble_eq_true rfl) D_Cb_read_0.1.2.1.1 rfl (fun f7 => ?_)
    refine z_s I (s_istore_n (pc' := 12) (lv' := [(1, vI r9), (0, vR ad o)]) D_Cb_read_0.1.2.1.2 rfl (by decide) rfl rfl) ?_
    refine z_s I (s_iload_n (pc' := 13) 0 rfl D_Cb_read_0.1.2.2.1 rfl rfl) ?_
    refine z_if_le (tgt := 27) (pc' := 16) I f7 D_Cb_read_0.1.2.2.2 rfl rfl (fun c10 => ?_) (fun c10 => ?_)
    · refine z_s I (s_lv (lv' := [(0, vR ad o), (1, vI r9)]) [1, 0] rfl) ?_
      exact J27 _ f7 _
    · refine z_s I (s_aload_n (pc' := 17) 1 rfl D_Cb_read_0.2.1.1.1 rfl rfl) ?_
      refine z_getR (pc' := 20) (eI := o + 91) I g_Cb_31 ao rfl (by omega) D_Cb_read_0.2.1.1.2 rfl ?_
      have k11 : ok τ (4, 8) (o + 91) := r_Cb_text hw ao (by omega)
      refine z_s I (s_aload_n (pc' := 21) 1 rfl D_Cb_read_0.2.1.2.1 rfl rfl) ?_
      refine z_getR (pc' := 24) (eI := o + 1) I g_Cb_12 ao rfl (by omega) D_Cb_read_0.2.1.2.2 rfl ?_
      have k12 : ok τ (4, 1) (o + 1) := r_Cb_now hw ao (by omega)
      refine z_b1 (fun h15 q14 => ?_)
      refine z_callV (pc' := 27) I mv_Text_tell ml_Cb_152 (fun ad => [vR ad (o + 1)]) ⟨Nat.le_of_ble_eq_true rfl, Nat.le_of_ble_eq_true rfl⟩ k11 (fun hh => c_Text_tell hw k11 k12 hh q14) rfl rfl (Nat.le_of_ble_eq_true rfl) D_Cb_read_0.2.2.1.1 rfl (fun f13 => ?_)
      refine z_s I (s_lv (lv' := [(0, vR ad o), (1, vI r9)]) [1, 0] rfl) ?_
      exact J27 _ f7 _
  exact main _ hF (by rw [hG0])
set_option maxHeartbeats 4000000 in
set_option maxRecDepth 20000 in
theorem c_Cb_leastUse {l : Launch} {τ : TP} {x0 : Int} {h : HP} {r : Int} (hw : wf τ) (ax0 : inR x0) (hh : hr τ h) (hF : m_Cb_leastUse x0 h = some r) : Ctr l y_Cb_leastUse k_Cb_leastUse 1 (Option.some FieldType.int) 0 0 τ (fun ad => [vI x0]) h (some (vI r)) h (inR r) := by
  refine ctr_of (by decide) hw hh (fun ad => Nat.le_of_ble_eq_true rfl) (fun ad K Y I hK => ?_)
  obtain ⟨G0, hG0⟩ : ∃ G : Int → Prop, G = fun x => x = r := ⟨_, rfl⟩
  have gk0 : ∀ (x : Int), G0 x → inR x → K (some (vI x)) h := fun x g q => by
    rw [hG0] at g
    cases g
    exact hK q
  have main : Z Y (m_Cb_leastUse x0 h) G0 h 0 [(0, vI x0)] [] := by
    unfold m_Cb_leastUse
    refine z_s I (s_iload_n (pc' := 1) 0 rfl D_Cb_leastUse_0.1.1.1 rfl rfl) ?_
    refine z_s I (s_iconst (pc' := 2) D_Cb_leastUse_0.1.1.2 rfl) ?_
    refine z_icmp_eq (tgt := 10) (pc' := 5) I ax0 (inR_c (x := 2) rfl) D_Cb_leastUse_0.1.2.1 rfl rfl (fun c1 => ?_) (fun c1 => ?_)
    · refine z_s I (s_iconst (pc' := 11) D_Cb_leastUse_0.2.1.2 rfl) ?_
      refine z_s I (s_goto (tgt := 15) D_Cb_leastUse_0.2.2.1 rfl) ?_
      exact z_ret (w := some (vI 1)) I (fun g => gk0 _ g (b01.R bz1)) ⟨_, rfl⟩ D_Cb_leastUse_0.2.2.2.2 rfl
    · refine z_s I (s_iload_n (pc' := 6) 0 rfl D_Cb_leastUse_0.1.2.2.1 rfl rfl) ?_
      refine z_s I (s_iconst (pc' := 7) D_Cb_leastUse_0.1.2.2.2 rfl) ?_
      refine z_icmp_ne (tgt := 14) (pc' := 10) I ax0 (inR_c (x := 5) rfl) D_Cb_leastUse_0.2.1.1 rfl rfl (fun c2 => ?_) (fun c2 => ?_)
      · refine z_s I (s_iconst (pc' := 15) D_Cb_leastUse_0.2.2.2.1 rfl) ?_
        exact z_ret (w := some (vI 0)) I (fun g => gk0 _ g (b01.R bz0)) ⟨_, rfl⟩ D_Cb_leastUse_0.2.2.2.2 rfl
      · refine z_s I (s_iconst (pc' := 11) D_Cb_leastUse_0.2.1.2 rfl) ?_
        refine z_s I (s_goto (tgt := 15) D_Cb_leastUse_0.2.2.1 rfl) ?_
        exact z_ret (w := some (vI 1)) I (fun g => gk0 _ g (b01.R bz1)) ⟨_, rfl⟩ D_Cb_leastUse_0.2.2.2.2 rfl
  exact main _ hF (by rw [hG0])
set_option maxHeartbeats 4000000 in
set_option maxRecDepth 20000 in
theorem c_Cb_mostUse {l : Launch} {τ : TP} {x0 : Int} {h : HP} {r : Int} (hw : wf τ) (ax0 : inR x0) (hh : hr τ h) (hF : m_Cb_mostUse x0 h = some r) : Ctr l y_Cb_mostUse k_Cb_mostUse 1 (Option.some FieldType.int) 0 0 τ (fun ad => [vI x0]) h (some (vI r)) h (inR r) := by
  refine ctr_of (by decide) hw hh (fun ad => Nat.le_of_ble_eq_true rfl) (fun ad K Y I hK => ?_)
  obtain ⟨G0, hG0⟩ : ∃ G : Int → Prop, G = fun x => x = r := ⟨_, rfl⟩
  have gk0 : ∀ (x : Int), G0 x → inR x → K (some (vI x)) h := fun x g q => by
    rw [hG0] at g
    cases g
    exact hK q
  have main : Z Y (m_Cb_mostUse x0 h) G0 h 0 [(0, vI x0)] [] := by
    unfold m_Cb_mostUse
    refine z_s I (s_iload_n (pc' := 1) 0 rfl D_Cb_mostUse_0.1.1.1 rfl rfl) ?_
    refine z_tin (tgt := 36) I ax0 D_Cb_mostUse_0.1.1.2.1 0 ⟨by decide, by decide⟩ rfl rfl (fun c1 => ?_) (fun c1 => ?_)
    · refine z_s I (s_iconst (pc' := 37) D_Cb_mostUse_0.1.1.2.2 rfl) ?_
      exact z_ret (w := some (vI 3)) I (fun g => gk0 _ g (inR_c (x := 3) rfl)) ⟨_, rfl⟩ D_Cb_mostUse_0.1.2.1 rfl
    · skip
      refine z_tin (tgt := 36) I ax0 D_Cb_mostUse_0.1.1.2.1 1 ⟨by decide, by decide⟩ rfl rfl (fun c2 => ?_) (fun c2 => ?_)
      · refine z_s I (s_iconst (pc' := 37) D_Cb_mostUse_0.1.1.2.2 rfl) ?_
        exact z_ret (w := some (vI 3)) I (fun g => gk0 _ g (inR_c (x := 3) rfl)) ⟨_, rfl⟩ D_Cb_mostUse_0.1.2.1 rfl
      · skip
        refine z_tin (tgt := 38) I ax0 D_Cb_mostUse_0.1.1.2.1 2 ⟨by decide, by decide⟩ rfl rfl (fun c3 => ?_) (fun c3 => ?_)
        · refine z_s I (s_sipush (pc' := 41) D_Cb_mostUse_0.1.2.2.1 rfl rfl) ?_
          exact z_ret (w := some (vI 500)) I (fun g => gk0 _ g (inR_c (x := 500) rfl)) ⟨_, rfl⟩ D_Cb_mostUse_0.1.2.2.2 rfl
        · skip
          refine z_tin (tgt := 42) I ax0 D_Cb_mostUse_0.1.1.2.1 3 ⟨by decide, by decide⟩ rfl rfl (fun c4 => ?_) (fun c4 => ?_)
          · refine z_s I (s_bipush (pc' := 44) D_Cb_mostUse_0.2.1.1 rfl rfl) ?_
            exact z_ret (w := some (vI 9)) I (fun g => gk0 _ g (inR_c (x := 9) rfl)) ⟨_, rfl⟩ D_Cb_mostUse_0.2.1.2.1 rfl
          · skip
            refine z_tin (tgt := 45) I ax0 D_Cb_mostUse_0.1.1.2.1 4 ⟨by decide, by decide⟩ rfl rfl (fun c5 => ?_) (fun c5 => ?_)
            · refine z_s I (s_iconst (pc' := 46) D_Cb_mostUse_0.2.1.2.2 rfl) ?_
              exact z_ret (w := some (vI 2)) I (fun g => gk0 _ g (inR_c (x := 2) rfl)) ⟨_, rfl⟩ D_Cb_mostUse_0.2.2.1 rfl
            · skip
              refine z_tout (tgt := 47) I ax0 D_Cb_mostUse_0.1.1.2.1 (by omega) rfl ?_
              refine z_s I (s_iconst (pc' := 48) D_Cb_mostUse_0.2.2.2.1 rfl) ?_
              exact z_ret (w := some (vI 4)) I (fun g => gk0 _ g (inR_c (x := 4) rfl)) ⟨_, rfl⟩ D_Cb_mostUse_0.2.2.2.2 rfl
  exact main _ hF (by rw [hG0])
set_option maxHeartbeats 4000000 in
set_option maxRecDepth 20000 in
theorem c_Cb_use {l : Launch} {τ : TP} {o : Int} {x1 : Int} {x2 : Int} {h : HP} {r : Int} {h' : HP} (hw : wf τ) (ao : ok τ (4, 9) o) (ax1 : inR x1) (ax2 : inR x2) (hh : hr τ h) (hF : m_Cb_use o x1 x2 h = some (r, h')) : Ctr l y_Cb_use k_Cb_use 4 (Option.some FieldType.int) 1 20 τ (fun ad => [vR ad o, vI x1, vI x2]) h (some (vI r)) h' (inR r) := by
  refine ctr_of (by decide) hw hh (fun ad => Nat.le_of_ble_eq_true rfl) (fun ad K Y I hK => ?_)
  obtain ⟨G0, hG0⟩ : ∃ G : Int × HP → Prop, G = fun x => x = (r, h') := ⟨_, rfl⟩
  have gk0 : ∀ (x : Int) (y : HP), G0 (x, y) → inR x → K (some (vI x)) y := fun x y g q => by
    rw [hG0] at g
    cases g
    exact hK q
  have main : Z Y (m_Cb_use o x1 x2 h) G0 h 0 [(0, vR ad o), (1, vI x1), (2, vI x2)] [] := by
    unfold m_Cb_use
    refine z_s I (s_iload_n (pc' := 1) 1 rfl D_Cb_use_0.1.1.1.1 rfl rfl) ?_
    refine z_if_lt (tgt := 10) (pc' := 4) I ax1 D_Cb_use_0.1.1.1.2 rfl rfl (fun c1 => ?_) (fun c1 => ?_)
    · refine z_s I (s_iconst (pc' := 11) D_Cb_use_0.1.2.1.2 rfl) ?_
      exact z_ret (w := some (vI (-1))) I (fun g => gk0 _ _ g (inR_c (x := (-1)) rfl)) ⟨_, rfl⟩ D_Cb_use_0.1.2.2.1 rfl
    · refine z_s I (s_iload_n (pc' := 5) 1 rfl D_Cb_use_0.1.1.2.1 rfl rfl) ?_
      refine z_s I (s_bipush (pc' := 7) D_Cb_use_0.1.1.2.2 rfl rfl) ?_
      refine z_icmp_lt (tgt := 12) (pc' := 10) I ax1 (inR_c (x := 6) rfl) D_Cb_use_0.1.2.1.1 rfl rfl (fun c2 => ?_) (fun c2 => ?_)
      · refine z_s I (s_iload_n (pc' := 13) 2 rfl D_Cb_use_0.1.2.2.2 rfl rfl) ?_
        refine z_s I (s_iload_n (pc' := 14) 1 rfl D_Cb_use_0.2.1.1.1 rfl rfl) ?_
        refine z_b1 (fun r5 q4 => ?_)
        refine z_callS (pc' := 17) I mv_Cb_leastUse ml_Cb_159 (fun ad => [vI x1]) ⟨Nat.le_of_ble_eq_true rfl, Nat.le_of_ble_eq_true rfl⟩ (fun hh => c_Cb_leastUse hw ax1 hh q4) rfl rfl (Nat.le_of_ble_eq_true rfl) D_Cb_use_0.2.1.1.2 rfl (fun f3 => ?_)
        refine z_icmp_lt (tgt := 28) (pc' := 20) I ax2 f3 D_Cb_use_0.2.1.2.1 rfl rfl (fun c6 => ?_) (fun c6 => ?_)
        · refine z_s I (s_bipush (pc' := 30) D_Cb_use_0.2.2.2.2 rfl rfl) ?_
          exact z_ret (w := some (vI (-2))) I (fun g => gk0 _ _ g (inR_c (x := (-2)) rfl)) ⟨_, rfl⟩ D_Cb_use_1.1.1.1 rfl
        · refine z_s I (s_iload_n (pc' := 21) 2 rfl D_Cb_use_0.2.1.2.2 rfl rfl) ?_
          refine z_s I (s_iload_n (pc' := 22) 1 rfl D_Cb_use_0.2.2.1.1 rfl rfl) ?_
          refine z_b1 (fun r9 q8 => ?_)
          refine z_callS (pc' := 25) I mv_Cb_mostUse ml_Cb_162 (fun ad => [vI x1]) ⟨Nat.le_of_ble_eq_true rfl, Nat.le_of_ble_eq_true rfl⟩ (fun hh => c_Cb_mostUse hw ax1 hh q8) rfl rfl (Nat.le_of_ble_eq_true rfl) D_Cb_use_0.2.2.1.2 rfl (fun f7 => ?_)
          refine z_icmp_le (tgt := 31) (pc' := 28) I ax2 f7 D_Cb_use_0.2.2.2.1 rfl rfl (fun c10 => ?_) (fun c10 => ?_)
          · refine z_s I (s_aload_n (pc' := 32) 0 rfl D_Cb_use_1.1.1.2.1 rfl rfl) ?_
            refine z_getR (pc' := 35) (eI := o + 1) I g_Cb_12 ao rfl (by omega) D_Cb_use_1.1.1.2.2 rfl ?_
            have k11 : ok τ (4, 1) (o + 1) := r_Cb_now hw ao (by omega)
            refine z_getR (pc' := 38) (eI := o + 24) I g_Cb_165 k11 rfl (by omega) D_Cb_use_1.1.2.1.1 rfl ?_
            have k12 : ok τ (0, 6) (o + 24) := r_Exam_used hw k11 (by omega)
            refine z_s I (s_iload_n (pc' := 39) 1 rfl D_Cb_use_1.1.2.1.2 rfl rfl) ?_
            refine z_iald (pc' := 40) (nI := 6) I k12 ax1 rfl D_Cb_use_1.1.2.2.1 rfl (fun c13 f14 => ?_)
            refine z_bI f14 (fun v15 e16 f17 => ?_)
            refine z_s I (s_istore_n (pc' := 41) (lv' := [(3, vI v15), (0, vR ad o), (1, vI x1), (2, vI x2)]) D_Cb_use_1.1.2.2.2 rfl (by decide) rfl rfl) ?_
            refine z_s I (s_aload_n (pc' := 42) 1 rfl D_Cb_use_1.2.1.1.1 rfl rfl) ?_
            refine z_getR (pc' := 45) (eI := o + 1) I g_Cb_12 ao rfl (by omega) D_Cb_use_1.2.1.1.2 rfl ?_
            have k18 : ok τ (4, 1) (o + 1) := r_Cb_now hw ao (by omega)
            refine z_getR (pc' := 48) (eI := o + 24) I g_Cb_165 k18 rfl (by omega) D_Cb_use_1.2.1.2.1 rfl ?_
            have k19 : ok τ (0, 6) (o + 24) := r_Exam_used hw k18 (by omega)
            refine z_s I (s_iload_n (pc' := 49) 2 rfl D_Cb_use_1.2.1.2.2 rfl rfl) ?_
            refine z_s I (s_iload_n (pc' := 50) 3 rfl D_Cb_use_1.2.2.1.1 rfl rfl) ?_
            refine z_iast (pc' := 51) (nI := 6) I k19 ax1 ax2 rfl D_Cb_use_1.2.2.1.2 rfl (fun c20 => ?_)
            refine z_bH (fun h21 e22 => ?_)
            refine z_s I (s_iload_n (pc' := 52) 0 rfl D_Cb_use_1.2.2.2.1 rfl rfl) ?_
            exact z_ret (w := some (vI v15)) I (fun g => gk0 _ _ g f17) ⟨_, rfl⟩ D_Cb_use_1.2.2.2.2 rfl
          · refine z_s I (s_bipush (pc' := 30) D_Cb_use_0.2.2.2.2 rfl rfl) ?_
            exact z_ret (w := some (vI (-2))) I (fun g => gk0 _ _ g (inR_c (x := (-2)) rfl)) ⟨_, rfl⟩ D_Cb_use_1.1.1.1 rfl
      · refine z_s I (s_iconst (pc' := 11) D_Cb_use_0.1.2.1.2 rfl) ?_
        exact z_ret (w := some (vI (-1))) I (fun g => gk0 _ _ g (inR_c (x := (-1)) rfl)) ⟨_, rfl⟩ D_Cb_use_0.1.2.2.1 rfl
  exact main _ hF (by rw [hG0])
set_option maxHeartbeats 4000000 in
set_option maxRecDepth 20000 in
theorem c_Cb_answer {l : Launch} {τ : TP} {o : Int} {x1 : Int} {x2 : Int} {h : HP} {r : Int} (hw : wf τ) (ao : ok τ (4, 9) o) (ax1 : inR x1) (ax2 : inR x2) (hh : hr τ h) (hF : m_Cb_answer o x1 x2 h = some r) : Ctr l y_Cb_answer k_Cb_answer 3 (Option.some FieldType.int) 1 21 τ (fun ad => [vR ad o, vI x1, vI x2]) h (some (vI r)) h (inR r) := by
  refine ctr_of (by decide) hw hh (fun ad => Nat.le_of_ble_eq_true rfl) (fun ad K Y I hK => ?_)
  obtain ⟨G0, hG0⟩ : ∃ G : Int → Prop, G = fun x => x = r := ⟨_, rfl⟩
  have gk0 : ∀ (x : Int), G0 x → inR x → K (some (vI x)) h := fun x g q => by
    rw [hG0] at g
    cases g
    exact hK q
  have main : Z Y (m_Cb_answer o x1 x2 h) G0 h 0 [(0, vR ad o), (1, vI x1), (2, vI x2)] [] := by
    unfold m_Cb_answer
    refine z_s I (s_aload_n (pc' := 1) 0 rfl D_Cb_answer_0.1.1.1.1 rfl rfl) ?_
    refine z_getR (pc' := 4) (eI := o + 1) I g_Cb_12 ao rfl (by omega) D_Cb_answer_0.1.1.1.2 rfl ?_
    have k1 : ok τ (4, 1) (o + 1) := r_Cb_now hw ao (by omega)
    refine z_s I (s_iload_n (pc' := 5) 1 rfl D_Cb_answer_0.1.1.2.1 rfl rfl) ?_
    refine z_b1 (fun r4 q3 => ?_)
    refine z_callV (pc' := 8) I mv_Exam_hasCandidate ml_Cb_123 (fun ad => [vI x1]) ⟨Nat.le_of_ble_eq_true rfl, Nat.le_of_ble_eq_true rfl⟩ k1 (fun hh => c_Exam_hasCandidate hw k1 ax1 hh q3) rfl rfl (Nat.le_of_ble_eq_true rfl) D_Cb_answer_0.1.1.2.2 rfl (fun f2 => ?_)
    refine z_if_eq (tgt := 22) (pc' := 11) I (b01.R f2) D_Cb_answer_0.1.2.1.1 rfl rfl (fun c5 => ?_) (fun c5 => ?_)
    · refine z_s I (s_iconst (pc' := 23) D_Cb_answer_0.2.1.2.1 rfl) ?_
      exact z_ret (w := some (vI (-1))) I (fun g => gk0 _ g (inR_c (x := (-1)) rfl)) ⟨_, rfl⟩ D_Cb_answer_0.2.1.2.2 rfl
    · refine z_s I (s_aload_n (pc' := 12) 0 rfl D_Cb_answer_0.1.2.1.2 rfl rfl) ?_
      refine z_getR (pc' := 15) (eI := o + 1) I g_Cb_12 ao rfl (by omega) D_Cb_answer_0.1.2.2.1 rfl ?_
      have k6 : ok τ (4, 1) (o + 1) := r_Cb_now hw ao (by omega)
      refine z_s I (s_iload_n (pc' := 16) 2 rfl D_Cb_answer_0.1.2.2.2 rfl rfl) ?_
      refine z_b1 (fun r9 q8 => ?_)
      refine z_callV (pc' := 19) I mv_Exam_hasItem ml_Cb_95 (fun ad => [vI x2]) ⟨Nat.le_of_ble_eq_true rfl, Nat.le_of_ble_eq_true rfl⟩ k6 (fun hh => c_Exam_hasItem hw k6 ax2 hh q8) rfl rfl (Nat.le_of_ble_eq_true rfl) D_Cb_answer_0.2.1.1.1 rfl (fun f7 => ?_)
      refine z_if_ne (tgt := 24) (pc' := 22) I (b01.R f7) D_Cb_answer_0.2.1.1.2 rfl rfl (fun c10 => ?_) (fun c10 => ?_)
      · refine z_s I (s_aload_n (pc' := 25) 0 rfl D_Cb_answer_0.2.2.1.1 rfl rfl) ?_
        refine z_getR (pc' := 28) (eI := o + 1) I g_Cb_12 ao rfl (by omega) D_Cb_answer_0.2.2.1.2 rfl ?_
        have k11 : ok τ (4, 1) (o + 1) := r_Cb_now hw ao (by omega)
        refine z_getR (pc' := 31) (eI := o + 13) I g_Cb_126 k11 rfl (by omega) D_Cb_answer_0.2.2.2.1 rfl ?_
        have k12 : ok τ (3, 1) (o + 13) := r_Exam_given hw k11 (by omega)
        refine z_s I (s_iload_n (pc' := 32) 1 rfl D_Cb_answer_0.2.2.2.2 rfl rfl) ?_
        refine z_aald (pc' := 33) (eI := o + x1 + 14) I 8 1 1 k12 ax1 rfl rfl rfl (by omega) D_Cb_answer_1.1.1 rfl (fun c13 => ?_)
        have k14 : ok τ (0, 8) (o + x1 + 14) := e_1 hw k12 c13 (by omega)
        refine z_s I (s_iload_n (pc' := 34) 2 rfl D_Cb_answer_1.1.2 rfl rfl) ?_
        refine z_iald (pc' := 35) (nI := 8) I k14 ax2 rfl D_Cb_answer_1.2.1 rfl (fun c15 f16 => ?_)
        refine z_b1 (fun r19 q18 => ?_)
        refine z_callS (pc' := 38) I mv_Cb_orNeither ml_Cb_129 (fun ad => [vI (h (o + x1 + 14) x2)]) ⟨Nat.le_of_ble_eq_true rfl, Nat.le_of_ble_eq_true rfl⟩ (fun hh => c_Cb_orNeither hw f16 hh q18) rfl rfl (Nat.le_of_ble_eq_true rfl) D_Cb_answer_1.2.2.1 rfl (fun f17 => ?_)
        exact z_ret (w := some (vI r19)) I (fun g => gk0 _ g f17) ⟨_, rfl⟩ D_Cb_answer_1.2.2.2 rfl
      · refine z_s I (s_iconst (pc' := 23) D_Cb_answer_0.2.1.2.1 rfl) ?_
        exact z_ret (w := some (vI (-1))) I (fun g => gk0 _ g (inR_c (x := (-1)) rfl)) ⟨_, rfl⟩ D_Cb_answer_0.2.1.2.2 rfl
  exact main _ hF (by rw [hG0])
set_option maxHeartbeats 4000000 in
set_option maxRecDepth 20000 in
theorem c_Exam_answersOf {l : Launch} {τ : TP} {o : Int} {x1 : Int} {h : HP} {r : Int} (hw : wf τ) (ao : ok τ (4, 1) o) (ax1 : inR x1) (hh : hr τ h) (hF : m_Exam_answersOf o x1 h = some r) : Ctr l y_Exam_answersOf k_Exam_answersOf 4 (Option.some FieldType.int) 0 0 τ (fun ad => [vR ad o, vI x1]) h (some (vI r)) h (inR r) := by
  refine ctr_of (by decide) hw hh (fun ad => Nat.le_of_ble_eq_true rfl) (fun ad K Y I hK => ?_)
  obtain ⟨G0, hG0⟩ : ∃ G : Int → Prop, G = fun x => x = r := ⟨_, rfl⟩
  have gk0 : ∀ (x : Int), G0 x → inR x → K (some (vI x)) h := fun x g q => by
    rw [hG0] at g
    cases g
    exact hK q
  have L4 : ∀ (s : Int × Int), (inR (s.1) ∧ inR (s.2)) → Z Y (m_Exam_answersOf_L4 o x1 h s) G0 h 4 [(0, vR ad o), (1, vI x1), (2, vI (s.1)), (3, vI (s.2))] [] := by
    intro s hs
    refine z_loop (G := G0) (hO := fun s : Int × Int => h) (lO := fun s : Int × Int => [(0, vR ad o), (1, vI x1), (2, vI (s.1)), (3, vI (s.2))]) (Φ := fun s : Int × Int => inR (s.1) ∧ inR (s.2)) (fun G1 hin1_1 hout1 s hs => ?_) FUEL s hs
    obtain ⟨x2, x3⟩ := s
    obtain ⟨ax2, ax3⟩ := hs
    have gk1 := fun (x : Int) (g : G1 (.inr (x))) (q : inR x) => gk0 x (hout1 _ g) q
    show Z Y (m_Exam_answersOf_L4b o x1 h x2 x3) G1 h 4 [(0, vR ad o), (1, vI x1), (2, vI x2), (3, vI x3)] []
    unfold m_Exam_answersOf_L4b
    refine z_s I (s_iload_n (pc' := 5) 3 rfl D_Exam_answersOf_0.1.2.1.1 rfl rfl) ?_
    refine z_s I (s_aload_n (pc' := 6) 0 rfl D_Exam_answersOf_0.1.2.1.2 rfl rfl) ?_
    refine z_getI (pc' := 9) (jI := 0) I g_Exam_9 ao rfl rfl D_Exam_answersOf_0.1.2.2.1 rfl (fun f1 => ?_)
    refine z_icmp_ge (tgt := 32) (pc' := 12) I ax3 f1 D_Exam_answersOf_0.1.2.2.2 rfl rfl (fun c2 => ?_) (fun c2 => ?_)
    · refine z_s I (s_iload_n (pc' := 33) 2 rfl D_Exam_answersOf_1.2.1 rfl rfl) ?_
      exact z_ret (w := some (vI x2)) I (fun g => gk1 _ g ax2) ⟨_, rfl⟩ D_Exam_answersOf_1.2.2 rfl
    · refine z_s I (s_aload_n (pc' := 13) 0 rfl D_Exam_answersOf_0.2.1.1.1 rfl rfl) ?_
      refine z_getR (pc' := 16) (eI := o + 12) I g_Exam_36 ao rfl (by omega) D_Exam_answersOf_0.2.1.1.2 rfl ?_
      have k3 : ok τ (3, 1) (o + 12) := r_Exam_given hw ao (by omega)
      refine z_s I (s_iload_n (pc' := 17) 1 rfl D_Exam_answersOf_0.2.1.2.1 rfl rfl) ?_
      refine z_aald (pc' := 18) (eI := o + x1 + 13) I 8 1 1 k3 ax1 rfl rfl rfl (by omega) D_Exam_answersOf_0.2.1.2.2 rfl (fun c4 => ?_)
      have k5 : ok τ (0, 8) (o + x1 + 13) := e_1 hw k3 c4 (by omega)
      refine z_s I (s_iload_n (pc' := 19) 3 rfl D_Exam_answersOf_0.2.2.1.1 rfl rfl) ?_
      refine z_iald (pc' := 20) (nI := 8) I k5 ax3 rfl D_Exam_answersOf_0.2.2.1.2 rfl (fun c6 f7 => ?_)
      refine z_if_lt (tgt := 26) (pc' := 23) I f7 D_Exam_answersOf_0.2.2.2.1 rfl rfl (fun c8 => ?_) (fun c8 => ?_)
      · refine z_s I (s_iinc (pc' := 29) (lv' := [(3, vI (w32 (x3 + 1))), (0, vR ad o), (1, vI x1), (2, vI x2)]) (n := 3) rfl D_Exam_answersOf_1.1.1 (by decide) rfl rfl) ?_
        refine z_s I (s_goto (tgt := 4) D_Exam_answersOf_1.1.2 rfl) ?_
        refine z_s I (s_lv (lv' := [(0, vR ad o), (1, vI x1), (2, vI x2), (3, vI (w32 (x3 + 1)))]) [1, 2, 3, 0] rfl) ?_
        exact z_end (fun g => hin1_1 _ g ⟨ax2, (inR_w32 _)⟩)
      · refine z_s I (s_iinc (pc' := 26) (lv' := [(2, vI (w32 (x2 + 1))), (0, vR ad o), (1, vI x1), (3, vI x3)]) (n := 2) rfl D_Exam_answersOf_0.2.2.2.2 (by decide) rfl rfl) ?_
        refine z_s I (s_iinc (pc' := 29) (lv' := [(3, vI (w32 (x3 + 1))), (2, vI (w32 (x2 + 1))), (0, vR ad o), (1, vI x1)]) (n := 3) rfl D_Exam_answersOf_1.1.1 (by decide) rfl rfl) ?_
        refine z_s I (s_goto (tgt := 4) D_Exam_answersOf_1.1.2 rfl) ?_
        refine z_s I (s_lv (lv' := [(0, vR ad o), (1, vI x1), (2, vI (w32 (x2 + 1))), (3, vI (w32 (x3 + 1)))]) [2, 3, 1, 0] rfl) ?_
        exact z_end (fun g => hin1_1 _ g ⟨(inR_w32 _), (inR_w32 _)⟩)
  have main : Z Y (m_Exam_answersOf o x1 h) G0 h 0 [(0, vR ad o), (1, vI x1)] [] := by
    unfold m_Exam_answersOf
    refine z_s I (s_iconst (pc' := 1) D_Exam_answersOf_0.1.1.1.1 rfl) ?_
    refine z_s I (s_istore_n (pc' := 2) (lv' := [(2, vI 0), (0, vR ad o), (1, vI x1)]) D_Exam_answersOf_0.1.1.1.2 rfl (by decide) rfl rfl) ?_
    refine z_s I (s_iconst (pc' := 3) D_Exam_answersOf_0.1.1.2.1 rfl) ?_
    refine z_s I (s_istore_n (pc' := 4) (lv' := [(3, vI 0), (2, vI 0), (0, vR ad o), (1, vI x1)]) D_Exam_answersOf_0.1.1.2.2 rfl (by decide) rfl rfl) ?_
    refine z_s I (s_lv (lv' := [(0, vR ad o), (1, vI x1), (2, vI 0), (3, vI 0)]) [2, 3, 1, 0] rfl) ?_
    exact L4 _ ⟨(b01.R bz0), (b01.R bz0)⟩
  exact main _ hF (by rw [hG0])
set_option maxHeartbeats 4000000 in
set_option maxRecDepth 20000 in
theorem c_Exam_rightOnesOf {l : Launch} {τ : TP} {o : Int} {x1 : Int} {h : HP} {r : Int} (hw : wf τ) (ao : ok τ (4, 1) o) (ax1 : inR x1) (hh : hr τ h) (hF : m_Exam_rightOnesOf o x1 h = some r) : Ctr l y_Exam_rightOnesOf k_Exam_rightOnesOf 4 (Option.some FieldType.int) 0 0 τ (fun ad => [vR ad o, vI x1]) h (some (vI r)) h (inR r) := by
  refine ctr_of (by decide) hw hh (fun ad => Nat.le_of_ble_eq_true rfl) (fun ad K Y I hK => ?_)
  obtain ⟨G0, hG0⟩ : ∃ G : Int → Prop, G = fun x => x = r := ⟨_, rfl⟩
  have gk0 : ∀ (x : Int), G0 x → inR x → K (some (vI x)) h := fun x g q => by
    rw [hG0] at g
    cases g
    exact hK q
  have L4 : ∀ (s : Int × Int), (inR (s.1) ∧ inR (s.2)) → Z Y (m_Exam_rightOnesOf_L4 o x1 h s) G0 h 4 [(0, vR ad o), (1, vI x1), (2, vI (s.1)), (3, vI (s.2))] [] := by
    intro s hs
    refine z_loop (G := G0) (hO := fun s : Int × Int => h) (lO := fun s : Int × Int => [(0, vR ad o), (1, vI x1), (2, vI (s.1)), (3, vI (s.2))]) (Φ := fun s : Int × Int => inR (s.1) ∧ inR (s.2)) (fun G1 hin1_1 hout1 s hs => ?_) FUEL s hs
    obtain ⟨x2, x3⟩ := s
    obtain ⟨ax2, ax3⟩ := hs
    have gk1 := fun (x : Int) (g : G1 (.inr (x))) (q : inR x) => gk0 x (hout1 _ g) q
    show Z Y (m_Exam_rightOnesOf_L4b o x1 h x2 x3) G1 h 4 [(0, vR ad o), (1, vI x1), (2, vI x2), (3, vI x3)] []
    unfold m_Exam_rightOnesOf_L4b
    refine z_s I (s_iload_n (pc' := 5) 3 rfl D_Exam_rightOnesOf_0.1.2.1.1 rfl rfl) ?_
    refine z_s I (s_aload_n (pc' := 6) 0 rfl D_Exam_rightOnesOf_0.1.2.1.2 rfl rfl) ?_
    refine z_getI (pc' := 9) (jI := 0) I g_Exam_9 ao rfl rfl D_Exam_rightOnesOf_0.1.2.2.1 rfl (fun f1 => ?_)
    refine z_icmp_ge (tgt := 38) (pc' := 12) I ax3 f1 D_Exam_rightOnesOf_0.1.2.2.2 rfl rfl (fun c2 => ?_) (fun c2 => ?_)
    · refine z_s I (s_iload_n (pc' := 39) 2 rfl D_Exam_rightOnesOf_1.2.2.1 rfl rfl) ?_
      exact z_ret (w := some (vI x2)) I (fun g => gk1 _ g ax2) ⟨_, rfl⟩ D_Exam_rightOnesOf_1.2.2.2 rfl
    · refine z_s I (s_aload_n (pc' := 13) 0 rfl D_Exam_rightOnesOf_0.2.1.1.1 rfl rfl) ?_
      refine z_getR (pc' := 16) (eI := o + 12) I g_Exam_36 ao rfl (by omega) D_Exam_rightOnesOf_0.2.1.1.2 rfl ?_
      have k3 : ok τ (3, 1) (o + 12) := r_Exam_given hw ao (by omega)
      refine z_s I (s_iload_n (pc' := 17) 1 rfl D_Exam_rightOnesOf_0.2.1.2.1 rfl rfl) ?_
      refine z_aald (pc' := 18) (eI := o + x1 + 13) I 8 1 1 k3 ax1 rfl rfl rfl (by omega) D_Exam_rightOnesOf_0.2.1.2.2 rfl (fun c4 => ?_)
      have k5 : ok τ (0, 8) (o + x1 + 13) := e_1 hw k3 c4 (by omega)
      refine z_s I (s_iload_n (pc' := 19) 3 rfl D_Exam_rightOnesOf_0.2.2.1.1 rfl rfl) ?_
      refine z_iald (pc' := 20) (nI := 8) I k5 ax3 rfl D_Exam_rightOnesOf_0.2.2.1.2 rfl (fun c6 f7 => ?_)
      refine z_s I (s_aload_n (pc' := 21) 0 rfl D_Exam_rightOnesOf_0.2.2.2.1 rfl rfl) ?_
      refine z_getR (pc' := 24) (eI := o + 1) I g_Exam_24 ao rfl (by omega) D_Exam_rightOnesOf_0.2.2.2.2 rfl ?_
      have k8 : ok τ (0, 8) (o + 1) := r_Exam_key hw ao (by omega)
      refine z_s I (s_iload_n (pc' := 25) 3 rfl D_Exam_rightOnesOf_1.1.1.1 rfl rfl) ?_
      refine z_iald (pc' := 26) (nI := 8) I k8 ax3 rfl D_Exam_rightOnesOf_1.1.1.2 rfl (fun c9 f10 => ?_)
      refine z_icmp_ne (tgt := 32) (pc' := 29) I f7 f10 D_Exam_rightOnesOf_1.1.2.1 rfl rfl (fun c11 => ?_) (fun c11 => ?_)
      · refine z_s I (s_iinc (pc' := 35) (lv' := [(3, vI (w32 (x3 + 1))), (0, vR ad o), (1, vI x1), (2, vI x2)]) (n := 3) rfl D_Exam_rightOnesOf_1.2.1.1 (by decide) rfl rfl) ?_
        refine z_s I (s_goto (tgt := 4) D_Exam_rightOnesOf_1.2.1.2 rfl) ?_
        refine z_s I (s_lv (lv' := [(0, vR ad o), (1, vI x1), (2, vI x2), (3, vI (w32 (x3 + 1)))]) [1, 2, 3, 0] rfl) ?_
        exact z_end (fun g => hin1_1 _ g ⟨ax2, (inR_w32 _)⟩)
      · refine z_s I (s_iinc (pc' := 32) (lv' := [(2, vI (w32 (x2 + 1))), (0, vR ad o), (1, vI x1), (3, vI x3)]) (n := 2) rfl D_Exam_rightOnesOf_1.1.2.2 (by decide) rfl rfl) ?_
        refine z_s I (s_iinc (pc' := 35) (lv' := [(3, vI (w32 (x3 + 1))), (2, vI (w32 (x2 + 1))), (0, vR ad o), (1, vI x1)]) (n := 3) rfl D_Exam_rightOnesOf_1.2.1.1 (by decide) rfl rfl) ?_
        refine z_s I (s_goto (tgt := 4) D_Exam_rightOnesOf_1.2.1.2 rfl) ?_
        refine z_s I (s_lv (lv' := [(0, vR ad o), (1, vI x1), (2, vI (w32 (x2 + 1))), (3, vI (w32 (x3 + 1)))]) [2, 3, 1, 0] rfl) ?_
        exact z_end (fun g => hin1_1 _ g ⟨(inR_w32 _), (inR_w32 _)⟩)
  have main : Z Y (m_Exam_rightOnesOf o x1 h) G0 h 0 [(0, vR ad o), (1, vI x1)] [] := by
    unfold m_Exam_rightOnesOf
    refine z_s I (s_iconst (pc' := 1) D_Exam_rightOnesOf_0.1.1.1.1 rfl) ?_
    refine z_s I (s_istore_n (pc' := 2) (lv' := [(2, vI 0), (0, vR ad o), (1, vI x1)]) D_Exam_rightOnesOf_0.1.1.1.2 rfl (by decide) rfl rfl) ?_
    refine z_s I (s_iconst (pc' := 3) D_Exam_rightOnesOf_0.1.1.2.1 rfl) ?_
    refine z_s I (s_istore_n (pc' := 4) (lv' := [(3, vI 0), (2, vI 0), (0, vR ad o), (1, vI x1)]) D_Exam_rightOnesOf_0.1.1.2.2 rfl (by decide) rfl rfl) ?_
    refine z_s I (s_lv (lv' := [(0, vR ad o), (1, vI x1), (2, vI 0), (3, vI 0)]) [2, 3, 1, 0] rfl) ?_
    exact L4 _ ⟨(b01.R bz0), (b01.R bz0)⟩
  exact main _ hF (by rw [hG0])
set_option maxHeartbeats 4000000 in
set_option maxRecDepth 20000 in
theorem c_Cb_of {l : Launch} {τ : TP} {o : Int} {x1 : Int} {x2 : Int} {h : HP} {r : Int} (hw : wf τ) (ao : ok τ (4, 9) o) (ax1 : inR x1) (ax2 : inR x2) (hh : hr τ h) (hF : m_Cb_of o x1 x2 h = some r) : Ctr l y_Cb_of k_Cb_of 3 (Option.some FieldType.int) 1 23 τ (fun ad => [vR ad o, vI x1, vI x2]) h (some (vI r)) h (inR r) := by
  refine ctr_of (by decide) hw hh (fun ad => Nat.le_of_ble_eq_true rfl) (fun ad K Y I hK => ?_)
  obtain ⟨G0, hG0⟩ : ∃ G : Int → Prop, G = fun x => x = r := ⟨_, rfl⟩
  have gk0 : ∀ (x : Int), G0 x → inR x → K (some (vI x)) h := fun x g q => by
    rw [hG0] at g
    cases g
    exact hK q
  have main : Z Y (m_Cb_of o x1 x2 h) G0 h 0 [(0, vR ad o), (1, vI x1), (2, vI x2)] [] := by
    unfold m_Cb_of
    refine z_s I (s_aload_n (pc' := 1) 0 rfl D_Cb_of_0.1.1.1.1 rfl rfl) ?_
    refine z_getR (pc' := 4) (eI := o + 1) I g_Cb_12 ao rfl (by omega) D_Cb_of_0.1.1.1.2 rfl ?_
    have k1 : ok τ (4, 1) (o + 1) := r_Cb_now hw ao (by omega)
    refine z_s I (s_iload_n (pc' := 5) 1 rfl D_Cb_of_0.1.1.2.1 rfl rfl) ?_
    refine z_b1 (fun r4 q3 => ?_)
    refine z_callV (pc' := 8) I mv_Exam_hasCandidate ml_Cb_123 (fun ad => [vI x1]) ⟨Nat.le_of_ble_eq_true rfl, Nat.le_of_ble_eq_true rfl⟩ k1 (fun hh => c_Exam_hasCandidate hw k1 ax1 hh q3) rfl rfl (Nat.le_of_ble_eq_true rfl) D_Cb_of_0.1.1.2.2 rfl (fun f2 => ?_)
    refine z_if_ne (tgt := 13) (pc' := 11) I (b01.R f2) D_Cb_of_0.1.2.1.1 rfl rfl (fun c5 => ?_) (fun c5 => ?_)
    · refine z_s I (s_iload_n (pc' := 14) 2 rfl D_Cb_of_0.1.2.2.2 rfl rfl) ?_
      refine z_tin (tgt := 44) I ax2 D_Cb_of_0.2.1.1.1 0 ⟨by decide, by decide⟩ rfl rfl (fun c6 => ?_) (fun c6 => ?_)
      · refine z_s I (s_aload_n (pc' := 45) 0 rfl D_Cb_of_0.2.1.1.2 rfl rfl) ?_
        refine z_getR (pc' := 48) (eI := o + 1) I g_Cb_12 ao rfl (by omega) D_Cb_of_0.2.1.2.1 rfl ?_
        have k7 : ok τ (4, 1) (o + 1) := r_Cb_now hw ao (by omega)
        refine z_s I (s_iload_n (pc' := 49) 1 rfl D_Cb_of_0.2.1.2.2 rfl rfl) ?_
        refine z_b1 (fun r10 q9 => ?_)
        refine z_callV (pc' := 52) I mv_Exam_answersOf ml_Cb_168 (fun ad => [vI x1]) ⟨Nat.le_of_ble_eq_true rfl, Nat.le_of_ble_eq_true rfl⟩ k7 (fun hh => c_Exam_answersOf hw k7 ax1 hh q9) rfl rfl (Nat.le_of_ble_eq_true rfl) D_Cb_of_0.2.2.1.1 rfl (fun f8 => ?_)
        exact z_ret (w := some (vI r10)) I (fun g => gk0 _ g f8) ⟨_, rfl⟩ D_Cb_of_0.2.2.1.2 rfl
      · skip
        refine z_tin (tgt := 53) I ax2 D_Cb_of_0.2.1.1.1 1 ⟨by decide, by decide⟩ rfl rfl (fun c11 => ?_) (fun c11 => ?_)
        · refine z_s I (s_aload_n (pc' := 54) 0 rfl D_Cb_of_0.2.2.2.1 rfl rfl) ?_
          refine z_getR (pc' := 57) (eI := o + 1) I g_Cb_12 ao rfl (by omega) D_Cb_of_0.2.2.2.2 rfl ?_
          have k12 : ok τ (4, 1) (o + 1) := r_Cb_now hw ao (by omega)
          refine z_s I (s_iload_n (pc' := 58) 1 rfl D_Cb_of_1.1.1.1.1 rfl rfl) ?_
          refine z_b1 (fun r15 q14 => ?_)
          refine z_callV (pc' := 61) I mv_Exam_rightOnesOf ml_Cb_171 (fun ad => [vI x1]) ⟨Nat.le_of_ble_eq_true rfl, Nat.le_of_ble_eq_true rfl⟩ k12 (fun hh => c_Exam_rightOnesOf hw k12 ax1 hh q14) rfl rfl (Nat.le_of_ble_eq_true rfl) D_Cb_of_1.1.1.1.2 rfl (fun f13 => ?_)
          exact z_ret (w := some (vI r15)) I (fun g => gk0 _ g f13) ⟨_, rfl⟩ D_Cb_of_1.1.1.2.1 rfl
        · skip
          refine z_tin (tgt := 62) I ax2 D_Cb_of_0.2.1.1.1 2 ⟨by decide, by decide⟩ rfl rfl (fun c16 => ?_) (fun c16 => ?_)
          · refine z_s I (s_aload_n (pc' := 63) 0 rfl D_Cb_of_1.1.1.2.2 rfl rfl) ?_
            refine z_getR (pc' := 66) (eI := o + 1) I g_Cb_12 ao rfl (by omega) D_Cb_of_1.1.2.1.1 rfl ?_
            have k17 : ok τ (4, 1) (o + 1) := r_Cb_now hw ao (by omega)
            refine z_getR (pc' := 69) (eI := o + 22) I g_Cb_174 k17 rfl (by omega) D_Cb_of_1.1.2.1.2 rfl ?_
            have k18 : ok τ (0, 8) (o + 22) := r_Exam_row hw k17 (by omega)
            refine z_s I (s_iload_n (pc' := 70) 1 rfl D_Cb_of_1.1.2.2.1 rfl rfl) ?_
            refine z_iald (pc' := 71) (nI := 8) I k18 ax1 rfl D_Cb_of_1.1.2.2.2 rfl (fun c19 f20 => ?_)
            refine z_b1 (fun r23 q22 => ?_)
            refine z_callS (pc' := 74) I mv_Cb_orNeither ml_Cb_129 (fun ad => [vI (h (o + 22) x1)]) ⟨Nat.le_of_ble_eq_true rfl, Nat.le_of_ble_eq_true rfl⟩ (fun hh => c_Cb_orNeither hw f20 hh q22) rfl rfl (Nat.le_of_ble_eq_true rfl) D_Cb_of_1.2.1.1.1 rfl (fun f21 => ?_)
            exact z_ret (w := some (vI r23)) I (fun g => gk0 _ g f21) ⟨_, rfl⟩ D_Cb_of_1.2.1.1.2 rfl
          · skip
            refine z_tin (tgt := 75) I ax2 D_Cb_of_0.2.1.1.1 3 ⟨by decide, by decide⟩ rfl rfl (fun c24 => ?_) (fun c24 => ?_)
            · refine z_s I (s_aload_n (pc' := 76) 0 rfl D_Cb_of_1.2.1.2.1 rfl rfl) ?_
              refine z_getR (pc' := 79) (eI := o + 1) I g_Cb_12 ao rfl (by omega) D_Cb_of_1.2.1.2.2 rfl ?_
              have k25 : ok τ (4, 1) (o + 1) := r_Cb_now hw ao (by omega)
              refine z_getR (pc' := 82) (eI := o + 23) I g_Cb_177 k25 rfl (by omega) D_Cb_of_1.2.2.1.1 rfl ?_
              have k26 : ok τ (0, 8) (o + 23) := r_Exam_place hw k25 (by omega)
              refine z_s I (s_iload_n (pc' := 83) 1 rfl D_Cb_of_1.2.2.1.2 rfl rfl) ?_
              refine z_iald (pc' := 84) (nI := 8) I k26 ax1 rfl D_Cb_of_1.2.2.2.1 rfl (fun c27 f28 => ?_)
              refine z_b1 (fun r31 q30 => ?_)
              refine z_callS (pc' := 87) I mv_Cb_orNeither ml_Cb_129 (fun ad => [vI (h (o + 23) x1)]) ⟨Nat.le_of_ble_eq_true rfl, Nat.le_of_ble_eq_true rfl⟩ (fun hh => c_Cb_orNeither hw f28 hh q30) rfl rfl (Nat.le_of_ble_eq_true rfl) D_Cb_of_1.2.2.2.2 rfl (fun f29 => ?_)
              exact z_ret (w := some (vI r31)) I (fun g => gk0 _ g f29) ⟨_, rfl⟩ D_Cb_of_2.1 rfl
            · skip
              refine z_tout (tgt := 88) I ax2 D_Cb_of_0.2.1.1.1 (by omega) rfl ?_
              refine z_s I (s_iconst (pc' := 89) D_Cb_of_2.2.1 rfl) ?_
              exact z_ret (w := some (vI (-1))) I (fun g => gk0 _ g (inR_c (x := (-1)) rfl)) ⟨_, rfl⟩ D_Cb_of_2.2.2 rfl
    · refine z_s I (s_iconst (pc' := 12) D_Cb_of_0.1.2.1.2 rfl) ?_
      exact z_ret (w := some (vI (-1))) I (fun g => gk0 _ g (inR_c (x := (-1)) rfl)) ⟨_, rfl⟩ D_Cb_of_0.1.2.2.1 rfl
  exact main _ hF (by rw [hG0])
set_option maxHeartbeats 4000000 in
set_option maxRecDepth 20000 in
theorem c_Exam_howMany {l : Launch} {τ : TP} {o : Int} {x1 : Int} {x2 : Int} {h : HP} {r : Int} (hw : wf τ) (ao : ok τ (4, 1) o) (ax1 : inR x1) (ax2 : inR x2) (hh : hr τ h) (hF : m_Exam_howMany o x1 x2 h = some r) : Ctr l y_Exam_howMany k_Exam_howMany 5 (Option.some FieldType.int) 0 0 τ (fun ad => [vR ad o, vI x1, vI x2]) h (some (vI r)) h (inR r) := by
  refine ctr_of (by decide) hw hh (fun ad => Nat.le_of_ble_eq_true rfl) (fun ad K Y I hK => ?_)
  obtain ⟨G0, hG0⟩ : ∃ G : Int → Prop, G = fun x => x = r := ⟨_, rfl⟩
  have gk0 : ∀ (x : Int), G0 x → inR x → K (some (vI x)) h := fun x g q => by
    rw [hG0] at g
    cases g
    exact hK q
  have L5 : ∀ (s : Int × Int), (inR (s.1) ∧ inR (s.2)) → Z Y (m_Exam_howMany_L5 o x1 x2 h s) G0 h 5 [(0, vR ad o), (1, vI x1), (2, vI x2), (3, vI (s.1)), (4, vI (s.2))] [] := by
    intro s hs
    refine z_loop (G := G0) (hO := fun s : Int × Int => h) (lO := fun s : Int × Int => [(0, vR ad o), (1, vI x1), (2, vI x2), (3, vI (s.1)), (4, vI (s.2))]) (Φ := fun s : Int × Int => inR (s.1) ∧ inR (s.2)) (fun G1 hin1_1 hout1 s hs => ?_) FUEL s hs
    obtain ⟨x3, x4⟩ := s
    obtain ⟨ax3, ax4⟩ := hs
    have gk1 := fun (x : Int) (g : G1 (.inr (x))) (q : inR x) => gk0 x (hout1 _ g) q
    show Z Y (m_Exam_howMany_L5b o x1 x2 h x3 x4) G1 h 5 [(0, vR ad o), (1, vI x1), (2, vI x2), (3, vI x3), (4, vI x4)] []
    unfold m_Exam_howMany_L5b
    refine z_s I (s_iload (pc' := 7) 4 rfl D_Exam_howMany_0.1.2.1.1 rfl) ?_
    refine z_s I (s_aload_n (pc' := 8) 0 rfl D_Exam_howMany_0.1.2.1.2 rfl rfl) ?_
    refine z_getI (pc' := 11) (jI := 1) I g_Exam_15 ao rfl rfl D_Exam_howMany_0.1.2.2.1 rfl (fun f1 => ?_)
    refine z_icmp_ge (tgt := 36) (pc' := 14) I ax4 f1 D_Exam_howMany_0.1.2.2.2 rfl rfl (fun c2 => ?_) (fun c2 => ?_)
    · refine z_s I (s_iload_n (pc' := 37) 3 rfl D_Exam_howMany_1.2.2.1 rfl rfl) ?_
      exact z_ret (w := some (vI x3)) I (fun g => gk1 _ g ax3) ⟨_, rfl⟩ D_Exam_howMany_1.2.2.2 rfl
    · refine z_s I (s_aload_n (pc' := 15) 0 rfl D_Exam_howMany_0.2.1.1.1 rfl rfl) ?_
      refine z_getR (pc' := 18) (eI := o + 12) I g_Exam_36 ao rfl (by omega) D_Exam_howMany_0.2.1.1.2 rfl ?_
      have k3 : ok τ (3, 1) (o + 12) := r_Exam_given hw ao (by omega)
      refine z_s I (s_iload (pc' := 20) 4 rfl D_Exam_howMany_0.2.1.2.1 rfl) ?_
      refine z_aald (pc' := 21) (eI := o + x4 + 13) I 8 1 1 k3 ax4 rfl rfl rfl (by omega) D_Exam_howMany_0.2.1.2.2 rfl (fun c4 => ?_)
      have k5 : ok τ (0, 8) (o + x4 + 13) := e_1 hw k3 c4 (by omega)
      refine z_s I (s_iload_n (pc' := 22) 1 rfl D_Exam_howMany_0.2.2.1.1 rfl rfl) ?_
      refine z_iald (pc' := 23) (nI := 8) I k5 ax1 rfl D_Exam_howMany_0.2.2.1.2 rfl (fun c6 f7 => ?_)
      refine z_s I (s_iload_n (pc' := 24) 2 rfl D_Exam_howMany_0.2.2.2.1 rfl rfl) ?_
      refine z_icmp_ne (tgt := 30) (pc' := 27) I f7 ax2 D_Exam_howMany_0.2.2.2.2 rfl rfl (fun c8 => ?_) (fun c8 => ?_)
      · refine z_s I (s_iinc (pc' := 33) (lv' := [(4, vI (w32 (x4 + 1))), (0, vR ad o), (1, vI x1), (2, vI x2), (3, vI x3)]) (n := 4) rfl D_Exam_howMany_1.1.2 (by decide) rfl rfl) ?_
        refine z_s I (s_goto (tgt := 5) D_Exam_howMany_1.2.1 rfl) ?_
        refine z_s I (s_lv (lv' := [(0, vR ad o), (1, vI x1), (2, vI x2), (3, vI x3), (4, vI (w32 (x4 + 1)))]) [1, 2, 3, 4, 0] rfl) ?_
        exact z_end (fun g => hin1_1 _ g ⟨ax3, (inR_w32 _)⟩)
      · refine z_s I (s_iinc (pc' := 30) (lv' := [(3, vI (w32 (x3 + 1))), (0, vR ad o), (1, vI x1), (2, vI x2), (4, vI x4)]) (n := 3) rfl D_Exam_howMany_1.1.1 (by decide) rfl rfl) ?_
        refine z_s I (s_iinc (pc' := 33) (lv' := [(4, vI (w32 (x4 + 1))), (3, vI (w32 (x3 + 1))), (0, vR ad o), (1, vI x1), (2, vI x2)]) (n := 4) rfl D_Exam_howMany_1.1.2 (by decide) rfl rfl) ?_
        refine z_s I (s_goto (tgt := 5) D_Exam_howMany_1.2.1 rfl) ?_
        refine z_s I (s_lv (lv' := [(0, vR ad o), (1, vI x1), (2, vI x2), (3, vI (w32 (x3 + 1))), (4, vI (w32 (x4 + 1)))]) [2, 3, 4, 1, 0] rfl) ?_
        exact z_end (fun g => hin1_1 _ g ⟨(inR_w32 _), (inR_w32 _)⟩)
  have main : Z Y (m_Exam_howMany o x1 x2 h) G0 h 0 [(0, vR ad o), (1, vI x1), (2, vI x2)] [] := by
    unfold m_Exam_howMany
    refine z_s I (s_iconst (pc' := 1) D_Exam_howMany_0.1.1.1.1 rfl) ?_
    refine z_s I (s_istore_n (pc' := 2) (lv' := [(3, vI 0), (0, vR ad o), (1, vI x1), (2, vI x2)]) D_Exam_howMany_0.1.1.1.2 rfl (by decide) rfl rfl) ?_
    refine z_s I (s_iconst (pc' := 3) D_Exam_howMany_0.1.1.2.1 rfl) ?_
    refine z_s I (s_istore (pc' := 5) (lv' := [(4, vI 0), (3, vI 0), (0, vR ad o), (1, vI x1), (2, vI x2)]) D_Exam_howMany_0.1.1.2.2 (by decide) rfl rfl) ?_
    refine z_s I (s_lv (lv' := [(0, vR ad o), (1, vI x1), (2, vI x2), (3, vI 0), (4, vI 0)]) [2, 3, 4, 1, 0] rfl) ?_
    exact L5 _ ⟨(b01.R bz0), (b01.R bz0)⟩
  exact main _ hF (by rw [hG0])
set_option maxHeartbeats 4000000 in
set_option maxRecDepth 20000 in
theorem c_Exam_answersTo {l : Launch} {τ : TP} {o : Int} {x1 : Int} {h : HP} {r : Int} (hw : wf τ) (ao : ok τ (4, 1) o) (ax1 : inR x1) (hh : hr τ h) (hF : m_Exam_answersTo o x1 h = some r) : Ctr l y_Exam_answersTo k_Exam_answersTo 2 (Option.some FieldType.int) 1 24 τ (fun ad => [vR ad o, vI x1]) h (some (vI r)) h (inR r) := by
  refine ctr_of (by decide) hw hh (fun ad => Nat.le_of_ble_eq_true rfl) (fun ad K Y I hK => ?_)
  obtain ⟨G0, hG0⟩ : ∃ G : Int → Prop, G = fun x => x = r := ⟨_, rfl⟩
  have gk0 : ∀ (x : Int), G0 x → inR x → K (some (vI x)) h := fun x g q => by
    rw [hG0] at g
    cases g
    exact hK q
  have main : Z Y (m_Exam_answersTo o x1 h) G0 h 0 [(0, vR ad o), (1, vI x1)] [] := by
    unfold m_Exam_answersTo
    refine z_s I (s_aload_n (pc' := 1) 0 rfl D_Exam_answersTo_0.1.1.1 rfl rfl) ?_
    refine z_getI (pc' := 4) (jI := 1) I g_Exam_15 ao rfl rfl D_Exam_answersTo_0.1.1.2 rfl (fun f1 => ?_)
    refine z_s I (s_aload_n (pc' := 5) 0 rfl D_Exam_answersTo_0.1.2.1 rfl rfl) ?_
    refine z_s I (s_iload_n (pc' := 6) 1 rfl D_Exam_answersTo_0.1.2.2 rfl rfl) ?_
    refine z_s I (s_iconst (pc' := 7) D_Exam_answersTo_0.2.1.1 rfl) ?_
    refine z_b1 (fun r4 q3 => ?_)
    refine z_callV (pc' := 10) I mv_Exam_howMany ml_Exam_91 (fun ad => [vI x1, vI (-1)]) ⟨Nat.le_of_ble_eq_true rfl, Nat.le_of_ble_eq_true rfl⟩ ao (fun hh => c_Exam_howMany hw ao ax1 (inR_c (x := (-1)) rfl) hh q3) rfl rfl (Nat.le_of_ble_eq_true rfl) D_Exam_answersTo_0.2.1.2 rfl (fun f2 => ?_)
    refine z_s I (s_isub (pc' := 11) D_Exam_answersTo_0.2.2.1 rfl) ?_
    exact z_ret (w := some (vI (w32 ((h o 1) - r4)))) I (fun g => gk0 _ g (inR_w32 _)) ⟨_, rfl⟩ D_Exam_answersTo_0.2.2.2 rfl
  exact main _ hF (by rw [hG0])
set_option maxHeartbeats 4000000 in
set_option maxRecDepth 20000 in
theorem c_Exam_favouriteMistake {l : Launch} {τ : TP} {o : Int} {x1 : Int} {h : HP} {r : Int} (hw : wf τ) (ao : ok τ (4, 1) o) (ax1 : inR x1) (hh : hr τ h) (hF : m_Exam_favouriteMistake o x1 h = some r) : Ctr l y_Exam_favouriteMistake k_Exam_favouriteMistake 6 (Option.some FieldType.int) 1 24 τ (fun ad => [vR ad o, vI x1]) h (some (vI r)) h (inR r) := by
  refine ctr_of (by decide) hw hh (fun ad => Nat.le_of_ble_eq_true rfl) (fun ad K Y I hK => ?_)
  obtain ⟨G0, hG0⟩ : ∃ G : Int → Prop, G = fun x => x = r := ⟨_, rfl⟩
  have gk0 : ∀ (x : Int), G0 x → inR x → K (some (vI x)) h := fun x g q => by
    rw [hG0] at g
    cases g
    exact hK q
  have L7 : ∀ (s : Int × Int × Int), (inR (s.1) ∧ inR (s.2.1) ∧ inR (s.2.2)) → Z Y (m_Exam_favouriteMistake_L7 o x1 h s) G0 h 7 [(0, vR ad o), (1, vI x1), (2, vI (s.1)), (3, vI (s.2.1)), (4, vI (s.2.2))] [] := by
    intro s hs
    refine z_loop (G := G0) (hO := fun s : Int × Int × Int => h) (lO := fun s : Int × Int × Int => [(0, vR ad o), (1, vI x1), (2, vI (s.1)), (3, vI (s.2.1)), (4, vI (s.2.2))]) (Φ := fun s : Int × Int × Int => inR (s.1) ∧ inR (s.2.1) ∧ inR (s.2.2)) (fun G1 hin1_1 hout1 s hs => ?_) FUEL s hs
    obtain ⟨x2, x3, x4⟩ := s
    obtain ⟨ax2, ax3, ax4⟩ := hs
    have gk1 := fun (x : Int) (g : G1 (.inr (x))) (q : inR x) => gk0 x (hout1 _ g) q
    show Z Y (m_Exam_favouriteMistake_L7b o x1 h x2 x3 x4) G1 h 7 [(0, vR ad o), (1, vI x1), (2, vI x2), (3, vI x3), (4, vI x4)] []
    unfold m_Exam_favouriteMistake_L7b
    refine z_s I (s_iload (pc' := 9) 4 rfl D_Exam_favouriteMistake_0.1.2.2.1 rfl) ?_
    refine z_s I (s_iconst (pc' := 10) D_Exam_favouriteMistake_0.1.2.2.2 rfl) ?_
    refine z_icmp_ge (tgt := 51) (pc' := 13) I ax4 (inR_c (x := 4) rfl) D_Exam_favouriteMistake_0.2.1.1.1 rfl rfl (fun c1 => ?_) (fun c1 => ?_)
    · refine z_s I (s_iload_n (pc' := 52) 2 rfl D_Exam_favouriteMistake_1.2.2.2.1 rfl rfl) ?_
      exact z_ret (w := some (vI x2)) I (fun g => gk1 _ g ax2) ⟨_, rfl⟩ D_Exam_favouriteMistake_1.2.2.2.2 rfl
    · refine z_s I (s_aload_n (pc' := 14) 0 rfl D_Exam_favouriteMistake_0.2.1.1.2 rfl rfl) ?_
      refine z_s I (s_iload_n (pc' := 15) 1 rfl D_Exam_favouriteMistake_0.2.1.2.1 rfl rfl) ?_
      refine z_s I (s_iload (pc' := 17) 4 rfl D_Exam_favouriteMistake_0.2.1.2.2 rfl) ?_
      refine z_b1 (fun r4 q3 => ?_)
      refine z_callV (pc' := 20) I mv_Exam_howMany ml_Exam_91 (fun ad => [vI x1, vI x4]) ⟨Nat.le_of_ble_eq_true rfl, Nat.le_of_ble_eq_true rfl⟩ ao (fun hh => c_Exam_howMany hw ao ax1 ax4 hh q3) rfl rfl (Nat.le_of_ble_eq_true rfl) D_Exam_favouriteMistake_0.2.2.1.1 rfl (fun f2 => ?_)
      refine z_s I (s_istore (pc' := 22) (lv' := [(5, vI r4), (0, vR ad o), (1, vI x1), (2, vI x2), (3, vI x3), (4, vI x4)]) D_Exam_favouriteMistake_0.2.2.1.2 (by decide) rfl rfl) ?_
      refine z_s I (s_iload (pc' := 24) 5 rfl D_Exam_favouriteMistake_0.2.2.2.1 rfl) ?_
      refine z_s I (s_aload_n (pc' := 25) 1 rfl D_Exam_favouriteMistake_0.2.2.2.2 rfl rfl) ?_
      refine z_getR (pc' := 28) (eI := o + 1) I g_Exam_24 ao rfl (by omega) D_Exam_favouriteMistake_1.1.1.1 rfl ?_
      have k5 : ok τ (0, 8) (o + 1) := r_Exam_key hw ao (by omega)
      refine z_s I (s_iload_n (pc' := 29) 2 rfl D_Exam_favouriteMistake_1.1.1.2.1 rfl rfl) ?_
      refine z_iald (pc' := 30) (nI := 8) I k5 ax1 rfl D_Exam_favouriteMistake_1.1.1.2.2 rfl (fun c6 f7 => ?_)
      refine z_icmp_eq (tgt := 45) (pc' := 33) I ax4 f7 D_Exam_favouriteMistake_1.1.2.1.1 rfl rfl (fun c8 => ?_) (fun c8 => ?_)
      · refine z_s I (s_iinc (pc' := 48) (lv' := [(4, vI (w32 (x4 + 1))), (5, vI r4), (0, vR ad o), (1, vI x1), (2, vI x2), (3, vI x3)]) (n := 5) rfl D_Exam_favouriteMistake_1.2.2.1.1 (by decide) rfl rfl) ?_
        refine z_s I (s_goto (tgt := 7) D_Exam_favouriteMistake_1.2.2.1.2 rfl) ?_
        refine z_s I (s_lv (lv' := [(0, vR ad o), (1, vI x1), (2, vI x2), (3, vI x3), (4, vI (w32 (x4 + 1)))]) [2, 3, 4, 5, 0] rfl) ?_
        exact z_end (fun g => hin1_1 _ g ⟨ax2, ax3, (inR_w32 _)⟩)
      · refine z_s I (s_iload (pc' := 35) 0 rfl D_Exam_favouriteMistake_1.1.2.1.2 rfl) ?_
        refine z_s I (s_iload_n (pc' := 36) 4 rfl D_Exam_favouriteMistake_1.1.2.2.1 rfl rfl) ?_
        refine z_icmp_le (tgt := 45) (pc' := 39) I f2 ax3 D_Exam_favouriteMistake_1.1.2.2.2 rfl rfl (fun c9 => ?_) (fun c9 => ?_)
        · refine z_s I (s_iinc (pc' := 48) (lv' := [(4, vI (w32 (x4 + 1))), (5, vI r4), (0, vR ad o), (1, vI x1), (2, vI x2), (3, vI x3)]) (n := 5) rfl D_Exam_favouriteMistake_1.2.2.1.1 (by decide) rfl rfl) ?_
          refine z_s I (s_goto (tgt := 7) D_Exam_favouriteMistake_1.2.2.1.2 rfl) ?_
          refine z_s I (s_lv (lv' := [(0, vR ad o), (1, vI x1), (2, vI x2), (3, vI x3), (4, vI (w32 (x4 + 1)))]) [2, 3, 4, 5, 0] rfl) ?_
          exact z_end (fun g => hin1_1 _ g ⟨ax2, ax3, (inR_w32 _)⟩)
        · refine z_s I (s_iload (pc' := 41) 5 rfl D_Exam_favouriteMistake_1.2.1.1.1 rfl) ?_
          refine z_s I (s_istore_n (pc' := 42) (lv' := [(2, vI x4), (5, vI r4), (0, vR ad o), (1, vI x1), (3, vI x3), (4, vI x4)]) D_Exam_favouriteMistake_1.2.1.1.2 rfl (by decide) rfl rfl) ?_
          refine z_s I (s_iload (pc' := 44) 1 rfl D_Exam_favouriteMistake_1.2.1.2.1 rfl) ?_
          refine z_s I (s_istore_n (pc' := 45) (lv' := [(3, vI r4), (2, vI x4), (5, vI r4), (0, vR ad o), (1, vI x1), (4, vI x4)]) D_Exam_favouriteMistake_1.2.1.2.2 rfl (by decide) rfl rfl) ?_
          refine z_s I (s_iinc (pc' := 48) (lv' := [(4, vI (w32 (x4 + 1))), (3, vI r4), (2, vI x4), (5, vI r4), (0, vR ad o), (1, vI x1)]) (n := 5) rfl D_Exam_favouriteMistake_1.2.2.1.1 (by decide) rfl rfl) ?_
          refine z_s I (s_goto (tgt := 7) D_Exam_favouriteMistake_1.2.2.1.2 rfl) ?_
          refine z_s I (s_lv (lv' := [(0, vR ad o), (1, vI x1), (2, vI x4), (3, vI r4), (4, vI (w32 (x4 + 1)))]) [4, 5, 2, 1, 0] rfl) ?_
          exact z_end (fun g => hin1_1 _ g ⟨ax4, f2, (inR_w32 _)⟩)
  have main : Z Y (m_Exam_favouriteMistake o x1 h) G0 h 0 [(0, vR ad o), (1, vI x1)] [] := by
    unfold m_Exam_favouriteMistake
    refine z_s I (s_iconst (pc' := 1) D_Exam_favouriteMistake_0.1.1.1.1 rfl) ?_
    refine z_s I (s_istore_n (pc' := 2) (lv' := [(2, vI (-1)), (0, vR ad o), (1, vI x1)]) D_Exam_favouriteMistake_0.1.1.1.2 rfl (by decide) rfl rfl) ?_
    refine z_s I (s_iconst (pc' := 3) D_Exam_favouriteMistake_0.1.1.2.1 rfl) ?_
    refine z_s I (s_istore_n (pc' := 4) (lv' := [(3, vI (-1)), (2, vI (-1)), (0, vR ad o), (1, vI x1)]) D_Exam_favouriteMistake_0.1.1.2.2 rfl (by decide) rfl rfl) ?_
    refine z_s I (s_iconst (pc' := 5) D_Exam_favouriteMistake_0.1.2.1.1 rfl) ?_
    refine z_s I (s_istore (pc' := 7) (lv' := [(4, vI 0), (3, vI (-1)), (2, vI (-1)), (0, vR ad o), (1, vI x1)]) D_Exam_favouriteMistake_0.1.2.1.2 (by decide) rfl rfl) ?_
    refine z_s I (s_lv (lv' := [(0, vR ad o), (1, vI x1), (2, vI (-1)), (3, vI (-1)), (4, vI 0)]) [3, 4, 2, 1, 0] rfl) ?_
    exact L7 _ ⟨(inR_c (x := (-1)) rfl), (inR_c (x := (-1)) rfl), (b01.R bz0)⟩
  exact main _ hF (by rw [hG0])
set_option maxHeartbeats 4000000 in
set_option maxRecDepth 20000 in
theorem c_Cb_itemOf {l : Launch} {τ : TP} {o : Int} {x1 : Int} {x2 : Int} {h : HP} {r : Int} (hw : wf τ) (ao : ok τ (4, 9) o) (ax1 : inR x1) (ax2 : inR x2) (hh : hr τ h) (hF : m_Cb_itemOf o x1 x2 h = some r) : Ctr l y_Cb_itemOf k_Cb_itemOf 3 (Option.some FieldType.int) 2 49 τ (fun ad => [vR ad o, vI x1, vI x2]) h (some (vI r)) h (inR r) := by
  refine ctr_of (by decide) hw hh (fun ad => Nat.le_of_ble_eq_true rfl) (fun ad K Y I hK => ?_)
  obtain ⟨G0, hG0⟩ : ∃ G : Int → Prop, G = fun x => x = r := ⟨_, rfl⟩
  have gk0 : ∀ (x : Int), G0 x → inR x → K (some (vI x)) h := fun x g q => by
    rw [hG0] at g
    cases g
    exact hK q
  have main : Z Y (m_Cb_itemOf o x1 x2 h) G0 h 0 [(0, vR ad o), (1, vI x1), (2, vI x2)] [] := by
    unfold m_Cb_itemOf
    refine z_s I (s_aload_n (pc' := 1) 0 rfl D_Cb_itemOf_0.1.1.1.1 rfl rfl) ?_
    refine z_getR (pc' := 4) (eI := o + 1) I g_Cb_12 ao rfl (by omega) D_Cb_itemOf_0.1.1.1.2 rfl ?_
    have k1 : ok τ (4, 1) (o + 1) := r_Cb_now hw ao (by omega)
    refine z_s I (s_iload_n (pc' := 5) 1 rfl D_Cb_itemOf_0.1.1.2.1 rfl rfl) ?_
    refine z_b1 (fun r4 q3 => ?_)
    refine z_callV (pc' := 8) I mv_Exam_hasItem ml_Cb_95 (fun ad => [vI x1]) ⟨Nat.le_of_ble_eq_true rfl, Nat.le_of_ble_eq_true rfl⟩ k1 (fun hh => c_Exam_hasItem hw k1 ax1 hh q3) rfl rfl (Nat.le_of_ble_eq_true rfl) D_Cb_itemOf_0.1.1.2.2 rfl (fun f2 => ?_)
    refine z_if_ne (tgt := 13) (pc' := 11) I (b01.R f2) D_Cb_itemOf_0.1.2.1.1 rfl rfl (fun c5 => ?_) (fun c5 => ?_)
    · refine z_s I (s_iload_n (pc' := 14) 2 rfl D_Cb_itemOf_0.1.2.2.2 rfl rfl) ?_
      refine z_tin (tgt := 48) I ax2 D_Cb_itemOf_0.2.1.1.1 0 ⟨by decide, by decide⟩ rfl rfl (fun c6 => ?_) (fun c6 => ?_)
      · refine z_s I (s_aload_n (pc' := 49) 0 rfl D_Cb_itemOf_0.2.1.1.2 rfl rfl) ?_
        refine z_getR (pc' := 52) (eI := o + 1) I g_Cb_12 ao rfl (by omega) D_Cb_itemOf_0.2.1.2.1 rfl ?_
        have k7 : ok τ (4, 1) (o + 1) := r_Cb_now hw ao (by omega)
        refine z_getR (pc' := 55) (eI := o + 2) I g_Cb_102 k7 rfl (by omega) D_Cb_itemOf_0.2.1.2.2 rfl ?_
        have k8 : ok τ (0, 8) (o + 2) := r_Exam_key hw k7 (by omega)
        refine z_s I (s_iload_n (pc' := 56) 1 rfl D_Cb_itemOf_0.2.2.1.1 rfl rfl) ?_
        refine z_iald (pc' := 57) (nI := 8) I k8 ax1 rfl D_Cb_itemOf_0.2.2.1.2 rfl (fun c9 f10 => ?_)
        exact z_ret (w := some (vI (h (o + 2) x1))) I (fun g => gk0 _ g f10) ⟨_, rfl⟩ D_Cb_itemOf_0.2.2.2.1 rfl
      · skip
        refine z_tin (tgt := 58) I ax2 D_Cb_itemOf_0.2.1.1.1 1 ⟨by decide, by decide⟩ rfl rfl (fun c11 => ?_) (fun c11 => ?_)
        · refine z_s I (s_aload_n (pc' := 59) 0 rfl D_Cb_itemOf_0.2.2.2.2 rfl rfl) ?_
          refine z_getR (pc' := 62) (eI := o + 1) I g_Cb_12 ao rfl (by omega) D_Cb_itemOf_1.1.1.1.1 rfl ?_
          have k12 : ok τ (4, 1) (o + 1) := r_Cb_now hw ao (by omega)
          refine z_getR (pc' := 65) (eI := o + 3) I g_Cb_109 k12 rfl (by omega) D_Cb_itemOf_1.1.1.1.2 rfl ?_
          have k13 : ok τ (0, 8) (o + 3) := r_Exam_kind hw k12 (by omega)
          refine z_s I (s_iload_n (pc' := 66) 1 rfl D_Cb_itemOf_1.1.1.2.1 rfl rfl) ?_
          refine z_iald (pc' := 67) (nI := 8) I k13 ax1 rfl D_Cb_itemOf_1.1.1.2.2 rfl (fun c14 f15 => ?_)
          exact z_ret (w := some (vI (h (o + 3) x1))) I (fun g => gk0 _ g f15) ⟨_, rfl⟩ D_Cb_itemOf_1.1.2.1.1 rfl
        · skip
          refine z_tin (tgt := 68) I ax2 D_Cb_itemOf_0.2.1.1.1 2 ⟨by decide, by decide⟩ rfl rfl (fun c16 => ?_) (fun c16 => ?_)
          · refine z_s I (s_aload_n (pc' := 69) 0 rfl D_Cb_itemOf_1.1.2.1.2 rfl rfl) ?_
            refine z_getR (pc' := 72) (eI := o + 1) I g_Cb_12 ao rfl (by omega) D_Cb_itemOf_1.1.2.2.1 rfl ?_
            have k17 : ok τ (4, 1) (o + 1) := r_Cb_now hw ao (by omega)
            refine z_s I (s_iload_n (pc' := 73) 1 rfl D_Cb_itemOf_1.1.2.2.2 rfl rfl) ?_
            refine z_b1 (fun r20 q19 => ?_)
            refine z_callV (pc' := 76) I mv_Exam_answersTo ml_Cb_180 (fun ad => [vI x1]) ⟨Nat.le_of_ble_eq_true rfl, Nat.le_of_ble_eq_true rfl⟩ k17 (fun hh => c_Exam_answersTo hw k17 ax1 hh q19) rfl rfl (Nat.le_of_ble_eq_true rfl) D_Cb_itemOf_1.2.1.1.1 rfl (fun f18 => ?_)
            exact z_ret (w := some (vI r20)) I (fun g => gk0 _ g f18) ⟨_, rfl⟩ D_Cb_itemOf_1.2.1.1.2 rfl
          · skip
            refine z_tin (tgt := 77) I ax2 D_Cb_itemOf_0.2.1.1.1 3 ⟨by decide, by decide⟩ rfl rfl (fun c21 => ?_) (fun c21 => ?_)
            · refine z_s I (s_aload_n (pc' := 78) 0 rfl D_Cb_itemOf_1.2.1.2.1 rfl rfl) ?_
              refine z_getR (pc' := 81) (eI := o + 1) I g_Cb_12 ao rfl (by omega) D_Cb_itemOf_1.2.1.2.2 rfl ?_
              have k22 : ok τ (4, 1) (o + 1) := r_Cb_now hw ao (by omega)
              refine z_s I (s_iload_n (pc' := 82) 1 rfl D_Cb_itemOf_1.2.2.1.1 rfl rfl) ?_
              refine z_b1 (fun r25 q24 => ?_)
              refine z_callV (pc' := 85) I mv_Exam_answersTo ml_Cb_180 (fun ad => [vI x1]) ⟨Nat.le_of_ble_eq_true rfl, Nat.le_of_ble_eq_true rfl⟩ k22 (fun hh => c_Exam_answersTo hw k22 ax1 hh q24) rfl rfl (Nat.le_of_ble_eq_true rfl) D_Cb_itemOf_1.2.2.1.2 rfl (fun f23 => ?_)
              refine z_s I (s_aload_n (pc' := 86) 0 rfl D_Cb_itemOf_1.2.2.2.1 rfl rfl) ?_
              refine z_getR (pc' := 89) (eI := o + 1) I g_Cb_12 ao rfl (by omega) D_Cb_itemOf_1.2.2.2.2 rfl ?_
              have k26 : ok τ (4, 1) (o + 1) := r_Cb_now hw ao (by omega)
              refine z_s I (s_iload_n (pc' := 90) 1 rfl D_Cb_itemOf_2.1.1.1.1 rfl rfl) ?_
              refine z_s I (s_aload_n (pc' := 91) 0 rfl D_Cb_itemOf_2.1.1.1.2 rfl rfl) ?_
              refine z_getR (pc' := 94) (eI := o + 1) I g_Cb_12 ao rfl (by omega) D_Cb_itemOf_2.1.1.2.1 rfl ?_
              have k27 : ok τ (4, 1) (o + 1) := r_Cb_now hw ao (by omega)
              refine z_getR (pc' := 97) (eI := o + 2) I g_Cb_102 k27 rfl (by omega) D_Cb_itemOf_2.1.1.2.2 rfl ?_
              have k28 : ok τ (0, 8) (o + 2) := r_Exam_key hw k27 (by omega)
              refine z_s I (s_iload_n (pc' := 98) 1 rfl D_Cb_itemOf_2.1.2.1.1 rfl rfl) ?_
              refine z_iald (pc' := 99) (nI := 8) I k28 ax1 rfl D_Cb_itemOf_2.1.2.1.2 rfl (fun c29 f30 => ?_)
              refine z_b1 (fun r33 q32 => ?_)
              refine z_callV (pc' := 102) I mv_Exam_howMany ml_Cb_183 (fun ad => [vI x1, vI (h (o + 2) x1)]) ⟨Nat.le_of_ble_eq_true rfl, Nat.le_of_ble_eq_true rfl⟩ k26 (fun hh => c_Exam_howMany hw k26 ax1 f30 hh q32) rfl rfl (Nat.le_of_ble_eq_true rfl) D_Cb_itemOf_2.1.2.2.1 rfl (fun f31 => ?_)
              refine z_s I (s_isub (pc' := 103) D_Cb_itemOf_2.1.2.2.2 rfl) ?_
              exact z_ret (w := some (vI (w32 (r25 - r33)))) I (fun g => gk0 _ g (inR_w32 _)) ⟨_, rfl⟩ D_Cb_itemOf_2.2.1.1.1 rfl
            · skip
              refine z_tin (tgt := 104) I ax2 D_Cb_itemOf_0.2.1.1.1 4 ⟨by decide, by decide⟩ rfl rfl (fun c34 => ?_) (fun c34 => ?_)
              · refine z_s I (s_aload_n (pc' := 105) 0 rfl D_Cb_itemOf_2.2.1.1.2 rfl rfl) ?_
                refine z_getR (pc' := 108) (eI := o + 1) I g_Cb_12 ao rfl (by omega) D_Cb_itemOf_2.2.1.2.1 rfl ?_
                have k35 : ok τ (4, 1) (o + 1) := r_Cb_now hw ao (by omega)
                refine z_s I (s_iload_n (pc' := 109) 1 rfl D_Cb_itemOf_2.2.1.2.2 rfl rfl) ?_
                refine z_b1 (fun r38 q37 => ?_)
                refine z_callV (pc' := 112) I mv_Exam_favouriteMistake ml_Cb_186 (fun ad => [vI x1]) ⟨Nat.le_of_ble_eq_true rfl, Nat.le_of_ble_eq_true rfl⟩ k35 (fun hh => c_Exam_favouriteMistake hw k35 ax1 hh q37) rfl rfl (Nat.le_of_ble_eq_true rfl) D_Cb_itemOf_2.2.2.1.1 rfl (fun f36 => ?_)
                exact z_ret (w := some (vI r38)) I (fun g => gk0 _ g f36) ⟨_, rfl⟩ D_Cb_itemOf_2.2.2.1.2 rfl
              · skip
                refine z_tout (tgt := 113) I ax2 D_Cb_itemOf_0.2.1.1.1 (by omega) rfl ?_
                refine z_s I (s_iconst (pc' := 114) D_Cb_itemOf_2.2.2.2.1 rfl) ?_
                exact z_ret (w := some (vI (-1))) I (fun g => gk0 _ g (inR_c (x := (-1)) rfl)) ⟨_, rfl⟩ D_Cb_itemOf_2.2.2.2.2 rfl
    · refine z_s I (s_iconst (pc' := 12) D_Cb_itemOf_0.1.2.1.2 rfl) ?_
      exact z_ret (w := some (vI (-1))) I (fun g => gk0 _ g (inR_c (x := (-1)) rfl)) ⟨_, rfl⟩ D_Cb_itemOf_0.1.2.2.1 rfl
  exact main _ hF (by rw [hG0])
set_option maxHeartbeats 4000000 in
set_option maxRecDepth 20000 in
theorem c_Cb_isOfSort {l : Launch} {τ : TP} {x0 : Int} {x1 : Int} {h : HP} {r : Int} (hw : wf τ) (ax0 : inR x0) (ax1 : inR x1) (hh : hr τ h) (hF : m_Cb_isOfSort x0 x1 h = some r) : Ctr l y_Cb_isOfSort k_Cb_isOfSort 2 (Option.some FieldType.boolean) 0 0 τ (fun ad => [vI x0, vI x1]) h (some (vI r)) h (b01 r) := by
  refine ctr_of (by decide) hw hh (fun ad => Nat.le_of_ble_eq_true rfl) (fun ad K Y I hK => ?_)
  obtain ⟨G0, hG0⟩ : ∃ G : Int → Prop, G = fun x => x = r := ⟨_, rfl⟩
  have gk0 : ∀ (x : Int), G0 x → b01 x → K (some (vI x)) h := fun x g q => by
    rw [hG0] at g
    cases g
    exact hK q
  have main : Z Y (m_Cb_isOfSort x0 x1 h) G0 h 0 [(0, vI x0), (1, vI x1)] [] := by
    unfold m_Cb_isOfSort
    refine z_s I (s_iload_n (pc' := 1) 1 rfl D_Cb_isOfSort_0.1.1.1.1 rfl rfl) ?_
    refine z_tin (tgt := 32) I ax1 D_Cb_isOfSort_0.1.1.1.2 0 ⟨by decide, by decide⟩ rfl rfl (fun c1 => ?_) (fun c1 => ?_)
    · refine z_s I (s_iconst (pc' := 33) D_Cb_isOfSort_0.1.1.2.1 rfl) ?_
      exact z_ret (w := some (vI 1)) I (fun g => gk0 _ g bz1) ⟨_, bz1, rfl⟩ D_Cb_isOfSort_0.1.1.2.2 rfl
    · skip
      refine z_tin (tgt := 34) I ax1 D_Cb_isOfSort_0.1.1.1.2 1 ⟨by decide, by decide⟩ rfl rfl (fun c2 => ?_) (fun c2 => ?_)
      · refine z_s I (s_iload_n (pc' := 35) 0 rfl D_Cb_isOfSort_0.1.2.1.1 rfl rfl) ?_
        refine z_if_eq (tgt := 43) (pc' := 38) I ax0 D_Cb_isOfSort_0.1.2.1.2 rfl rfl (fun c3 => ?_) (fun c3 => ?_)
        · refine z_s I (s_iconst (pc' := 44) D_Cb_isOfSort_0.2.1.1.2 rfl) ?_
          refine z_s I (s_goto (tgt := 48) D_Cb_isOfSort_0.2.1.2.1 rfl) ?_
          exact z_ret (w := some (vI 1)) I (fun g => gk0 _ g bz1) ⟨_, bz1, rfl⟩ D_Cb_isOfSort_0.2.2.1.1 rfl
        · refine z_s I (s_iload_n (pc' := 39) 0 rfl D_Cb_isOfSort_0.1.2.2.1 rfl rfl) ?_
          refine z_s I (s_iconst (pc' := 40) D_Cb_isOfSort_0.1.2.2.2 rfl) ?_
          refine z_icmp_ne (tgt := 47) (pc' := 43) I ax0 (b01.R bz1) D_Cb_isOfSort_0.2.1.1.1 rfl rfl (fun c4 => ?_) (fun c4 => ?_)
          · refine z_s I (s_iconst (pc' := 48) D_Cb_isOfSort_0.2.1.2.2 rfl) ?_
            exact z_ret (w := some (vI 0)) I (fun g => gk0 _ g bz0) ⟨_, bz0, rfl⟩ D_Cb_isOfSort_0.2.2.1.1 rfl
          · refine z_s I (s_iconst (pc' := 44) D_Cb_isOfSort_0.2.1.1.2 rfl) ?_
            refine z_s I (s_goto (tgt := 48) D_Cb_isOfSort_0.2.1.2.1 rfl) ?_
            exact z_ret (w := some (vI 1)) I (fun g => gk0 _ g bz1) ⟨_, bz1, rfl⟩ D_Cb_isOfSort_0.2.2.1.1 rfl
      · skip
        refine z_tin (tgt := 49) I ax1 D_Cb_isOfSort_0.1.1.1.2 2 ⟨by decide, by decide⟩ rfl rfl (fun c5 => ?_) (fun c5 => ?_)
        · refine z_s I (s_iload_n (pc' := 50) 0 rfl D_Cb_isOfSort_0.2.2.1.2 rfl rfl) ?_
          refine z_s I (s_iconst (pc' := 51) D_Cb_isOfSort_0.2.2.2.1 rfl) ?_
          refine z_icmp_ne (tgt := 58) (pc' := 54) I ax0 (b01.R bz1) D_Cb_isOfSort_0.2.2.2.2 rfl rfl (fun c6 => ?_) (fun c6 => ?_)
          · refine z_s I (s_iconst (pc' := 59) D_Cb_isOfSort_1.1.1.2.1 rfl) ?_
            exact z_ret (w := some (vI 0)) I (fun g => gk0 _ g bz0) ⟨_, bz0, rfl⟩ D_Cb_isOfSort_1.1.1.2.2 rfl
          · refine z_s I (s_iconst (pc' := 55) D_Cb_isOfSort_1.1.1.1.1 rfl) ?_
            refine z_s I (s_goto (tgt := 59) D_Cb_isOfSort_1.1.1.1.2 rfl) ?_
            exact z_ret (w := some (vI 1)) I (fun g => gk0 _ g bz1) ⟨_, bz1, rfl⟩ D_Cb_isOfSort_1.1.1.2.2 rfl
        · skip
          refine z_tin (tgt := 60) I ax1 D_Cb_isOfSort_0.1.1.1.2 3 ⟨by decide, by decide⟩ rfl rfl (fun c7 => ?_) (fun c7 => ?_)
          · refine z_s I (s_iload_n (pc' := 61) 0 rfl D_Cb_isOfSort_1.1.2.1.1 rfl rfl) ?_
            refine z_s I (s_iconst (pc' := 62) D_Cb_isOfSort_1.1.2.1.2 rfl) ?_
            refine z_icmp_eq (tgt := 70) (pc' := 65) I ax0 (inR_c (x := 2) rfl) D_Cb_isOfSort_1.1.2.2.1 rfl rfl (fun c8 => ?_) (fun c8 => ?_)
            · refine z_s I (s_iconst (pc' := 71) D_Cb_isOfSort_1.2.1.2.1 rfl) ?_
              refine z_s I (s_goto (tgt := 75) D_Cb_isOfSort_1.2.1.2.2 rfl) ?_
              exact z_ret (w := some (vI 1)) I (fun g => gk0 _ g bz1) ⟨_, bz1, rfl⟩ D_Cb_isOfSort_1.2.2.1.2 rfl
            · refine z_s I (s_iload_n (pc' := 66) 0 rfl D_Cb_isOfSort_1.1.2.2.2 rfl rfl) ?_
              refine z_s I (s_iconst (pc' := 67) D_Cb_isOfSort_1.2.1.1.1 rfl) ?_
              refine z_icmp_ne (tgt := 74) (pc' := 70) I ax0 (inR_c (x := 3) rfl) D_Cb_isOfSort_1.2.1.1.2 rfl rfl (fun c9 => ?_) (fun c9 => ?_)
              · refine z_s I (s_iconst (pc' := 75) D_Cb_isOfSort_1.2.2.1.1 rfl) ?_
                exact z_ret (w := some (vI 0)) I (fun g => gk0 _ g bz0) ⟨_, bz0, rfl⟩ D_Cb_isOfSort_1.2.2.1.2 rfl
              · refine z_s I (s_iconst (pc' := 71) D_Cb_isOfSort_1.2.1.2.1 rfl) ?_
                refine z_s I (s_goto (tgt := 75) D_Cb_isOfSort_1.2.1.2.2 rfl) ?_
                exact z_ret (w := some (vI 1)) I (fun g => gk0 _ g bz1) ⟨_, bz1, rfl⟩ D_Cb_isOfSort_1.2.2.1.2 rfl
          · skip
            refine z_tout (tgt := 76) I ax1 D_Cb_isOfSort_0.1.1.1.2 (by omega) rfl ?_
            refine z_s I (s_iload_n (pc' := 77) 0 rfl D_Cb_isOfSort_1.2.2.2.1 rfl rfl) ?_
            refine z_s I (s_iconst (pc' := 78) D_Cb_isOfSort_1.2.2.2.2 rfl) ?_
            refine z_icmp_ne (tgt := 85) (pc' := 81) I ax0 (inR_c (x := 3) rfl) D_Cb_isOfSort_2.1.1 rfl rfl (fun c10 => ?_) (fun c10 => ?_)
            · refine z_s I (s_iconst (pc' := 86) D_Cb_isOfSort_2.2.2.1 rfl) ?_
              exact z_ret (w := some (vI 0)) I (fun g => gk0 _ g bz0) ⟨_, bz0, rfl⟩ D_Cb_isOfSort_2.2.2.2 rfl
            · refine z_s I (s_iconst (pc' := 82) D_Cb_isOfSort_2.1.2 rfl) ?_
              refine z_s I (s_goto (tgt := 86) D_Cb_isOfSort_2.2.1 rfl) ?_
              exact z_ret (w := some (vI 1)) I (fun g => gk0 _ g bz1) ⟨_, bz1, rfl⟩ D_Cb_isOfSort_2.2.2.2 rfl
  exact main _ hF (by rw [hG0])
set_option maxHeartbeats 4000000 in
set_option maxRecDepth 20000 in
theorem c_Cb_taken {l : Launch} {τ : TP} {o : Int} {x1 : Int} {x2 : Int} {h : HP} {r : Int} (hw : wf τ) (ao : ok τ (4, 9) o) (ax1 : inR x1) (ax2 : inR x2) (hh : hr τ h) (hF : m_Cb_taken o x1 x2 h = some r) : Ctr l y_Cb_taken k_Cb_taken 4 (Option.some FieldType.int) 1 21 τ (fun ad => [vR ad o, vI x1, vI x2]) h (some (vI r)) h (inR r) := by
  refine ctr_of (by decide) hw hh (fun ad => Nat.le_of_ble_eq_true rfl) (fun ad K Y I hK => ?_)
  obtain ⟨G0, hG0⟩ : ∃ G : Int → Prop, G = fun x => x = r := ⟨_, rfl⟩
  have gk0 : ∀ (x : Int), G0 x → inR x → K (some (vI x)) h := fun x g q => by
    rw [hG0] at g
    cases g
    exact hK q
  have main : Z Y (m_Cb_taken o x1 x2 h) G0 h 0 [(0, vR ad o), (1, vI x1), (2, vI x2)] [] := by
    unfold m_Cb_taken
    refine z_s I (s_aload_n (pc' := 1) 0 rfl D_Cb_taken_0.1.1.1.1 rfl rfl) ?_
    refine z_getR (pc' := 4) (eI := o + 1) I g_Cb_12 ao rfl (by omega) D_Cb_taken_0.1.1.1.2 rfl ?_
    have k1 : ok τ (4, 1) (o + 1) := r_Cb_now hw ao (by omega)
    refine z_s I (s_iload_n (pc' := 5) 1 rfl D_Cb_taken_0.1.1.2.1 rfl rfl) ?_
    refine z_b1 (fun r4 q3 => ?_)
    refine z_callV (pc' := 8) I mv_Exam_hasItem ml_Cb_95 (fun ad => [vI x1]) ⟨Nat.le_of_ble_eq_true rfl, Nat.le_of_ble_eq_true rfl⟩ k1 (fun hh => c_Exam_hasItem hw k1 ax1 hh q3) rfl rfl (Nat.le_of_ble_eq_true rfl) D_Cb_taken_0.1.1.2.2 rfl (fun f2 => ?_)
    refine z_if_ne (tgt := 13) (pc' := 11) I (b01.R f2) D_Cb_taken_0.1.2.1.1 rfl rfl (fun c5 => ?_) (fun c5 => ?_)
    · refine z_s I (s_iload_n (pc' := 14) 2 rfl D_Cb_taken_0.1.2.2.2 rfl rfl) ?_
      refine z_if_lt (tgt := 22) (pc' := 17) I ax2 D_Cb_taken_0.2.1.1.1 rfl rfl (fun c6 => ?_) (fun c6 => ?_)
      · refine z_s I (s_bipush (pc' := 24) D_Cb_taken_0.2.2.1.1 rfl rfl) ?_
        exact z_ret (w := some (vI (-2))) I (fun g => gk0 _ g (inR_c (x := (-2)) rfl)) ⟨_, rfl⟩ D_Cb_taken_0.2.2.1.2 rfl
      · refine z_s I (s_iload_n (pc' := 18) 2 rfl D_Cb_taken_0.2.1.1.2 rfl rfl) ?_
        refine z_s I (s_iconst (pc' := 19) D_Cb_taken_0.2.1.2.1 rfl) ?_
        refine z_icmp_le (tgt := 25) (pc' := 22) I ax2 (inR_c (x := 4) rfl) D_Cb_taken_0.2.1.2.2 rfl rfl (fun c7 => ?_) (fun c7 => ?_)
        · refine z_s I (s_aload_n (pc' := 26) 0 rfl D_Cb_taken_0.2.2.2.1 rfl rfl) ?_
          refine z_getR (pc' := 29) (eI := o + 1) I g_Cb_12 ao rfl (by omega) D_Cb_taken_0.2.2.2.2 rfl ?_
          have k8 : ok τ (4, 1) (o + 1) := r_Cb_now hw ao (by omega)
          refine z_getR (pc' := 32) (eI := o + 3) I g_Cb_109 k8 rfl (by omega) D_Cb_taken_1.1.1.1 rfl ?_
          have k9 : ok τ (0, 8) (o + 3) := r_Exam_kind hw k8 (by omega)
          refine z_s I (s_iload_n (pc' := 33) 1 rfl D_Cb_taken_1.1.1.2.1 rfl rfl) ?_
          refine z_iald (pc' := 34) (nI := 8) I k9 ax1 rfl D_Cb_taken_1.1.1.2.2 rfl (fun c10 f11 => ?_)
          refine z_bI f11 (fun v12 e13 f14 => ?_)
          refine z_s I (s_istore_n (pc' := 35) (lv' := [(3, vI v12), (0, vR ad o), (1, vI x1), (2, vI x2)]) D_Cb_taken_1.1.2.1 rfl (by decide) rfl rfl) ?_
          refine z_s I (s_iload_n (pc' := 36) 0 rfl D_Cb_taken_1.1.2.2.1 rfl rfl) ?_
          refine z_s I (s_iload_n (pc' := 37) 3 rfl D_Cb_taken_1.1.2.2.2 rfl rfl) ?_
          refine z_b1 (fun r17 q16 => ?_)
          refine z_callS (pc' := 40) I mv_Cb_isOfSort ml_Cb_189 (fun ad => [vI v12, vI x2]) ⟨Nat.le_of_ble_eq_true rfl, Nat.le_of_ble_eq_true rfl⟩ (fun hh => c_Cb_isOfSort hw f14 ax2 hh q16) rfl rfl (Nat.le_of_ble_eq_true rfl) D_Cb_taken_1.2.1.1 rfl (fun f15 => ?_)
          refine z_if_eq (tgt := 47) (pc' := 43) I (b01.R f15) D_Cb_taken_1.2.1.2.1 rfl rfl (fun c18 => ?_) (fun c18 => ?_)
          · refine z_s I (s_bipush (pc' := 49) D_Cb_taken_1.2.2.2.1 rfl rfl) ?_
            exact z_ret (w := some (vI (-12))) I (fun g => gk0 _ g (inR_c (x := (-12)) rfl)) ⟨_, rfl⟩ D_Cb_taken_1.2.2.2.2 rfl
          · refine z_s I (s_iload_n (pc' := 44) 0 rfl D_Cb_taken_1.2.1.2.2 rfl rfl) ?_
            refine z_s I (s_goto (tgt := 49) D_Cb_taken_1.2.2.1 rfl) ?_
            exact z_ret (w := some (vI v12)) I (fun g => gk0 _ g f14) ⟨_, rfl⟩ D_Cb_taken_1.2.2.2.2 rfl
        · refine z_s I (s_bipush (pc' := 24) D_Cb_taken_0.2.2.1.1 rfl rfl) ?_
          exact z_ret (w := some (vI (-2))) I (fun g => gk0 _ g (inR_c (x := (-2)) rfl)) ⟨_, rfl⟩ D_Cb_taken_0.2.2.1.2 rfl
    · refine z_s I (s_iconst (pc' := 12) D_Cb_taken_0.1.2.1.2 rfl) ?_
      exact z_ret (w := some (vI (-1))) I (fun g => gk0 _ g (inR_c (x := (-1)) rfl)) ⟨_, rfl⟩ D_Cb_taken_0.1.2.2.1 rfl
  exact main _ hF (by rw [hG0])
set_option maxHeartbeats 4000000 in
set_option maxRecDepth 20000 in
theorem c_Exam_hasTwo {l : Launch} {τ : TP} {o : Int} {x1 : Int} {x2 : Int} {h : HP} {r : Int} (hw : wf τ) (ao : ok τ (4, 1) o) (ax1 : inR x1) (ax2 : inR x2) (hh : hr τ h) (hF : m_Exam_hasTwo o x1 x2 h = some r) : Ctr l y_Exam_hasTwo k_Exam_hasTwo 3 (Option.some FieldType.boolean) 1 21 τ (fun ad => [vR ad o, vI x1, vI x2]) h (some (vI r)) h (b01 r) := by
  refine ctr_of (by decide) hw hh (fun ad => Nat.le_of_ble_eq_true rfl) (fun ad K Y I hK => ?_)
  obtain ⟨G0, hG0⟩ : ∃ G : Int → Prop, G = fun x => x = r := ⟨_, rfl⟩
  have gk0 : ∀ (x : Int), G0 x → b01 x → K (some (vI x)) h := fun x g q => by
    rw [hG0] at g
    cases g
    exact hK q
  have main : Z Y (m_Exam_hasTwo o x1 x2 h) G0 h 0 [(0, vR ad o), (1, vI x1), (2, vI x2)] [] := by
    unfold m_Exam_hasTwo
    refine z_s I (s_aload_n (pc' := 1) 0 rfl D_Exam_hasTwo_0.1.1.1 rfl rfl) ?_
    refine z_s I (s_iload_n (pc' := 2) 1 rfl D_Exam_hasTwo_0.1.1.2.1 rfl rfl) ?_
    refine z_b1 (fun r3 q2 => ?_)
    refine z_callV (pc' := 5) I mv_Exam_hasCandidate ml_Exam_84 (fun ad => [vI x1]) ⟨Nat.le_of_ble_eq_true rfl, Nat.le_of_ble_eq_true rfl⟩ ao (fun hh => c_Exam_hasCandidate hw ao ax1 hh q2) rfl rfl (Nat.le_of_ble_eq_true rfl) D_Exam_hasTwo_0.1.1.2.2 rfl (fun f1 => ?_)
    refine z_if_eq (tgt := 25) (pc' := 8) I (b01.R f1) D_Exam_hasTwo_0.1.2.1.1 rfl rfl (fun c4 => ?_) (fun c4 => ?_)
    · refine z_s I (s_iconst (pc' := 26) D_Exam_hasTwo_0.2.2.2.1 rfl) ?_
      exact z_ret (w := some (vI 0)) I (fun g => gk0 _ g bz0) ⟨_, bz0, rfl⟩ D_Exam_hasTwo_0.2.2.2.2 rfl
    · refine z_s I (s_aload_n (pc' := 9) 0 rfl D_Exam_hasTwo_0.1.2.1.2 rfl rfl) ?_
      refine z_s I (s_iload_n (pc' := 10) 2 rfl D_Exam_hasTwo_0.1.2.2.1 rfl rfl) ?_
      refine z_b1 (fun r7 q6 => ?_)
      refine z_callV (pc' := 13) I mv_Exam_hasCandidate ml_Exam_84 (fun ad => [vI x2]) ⟨Nat.le_of_ble_eq_true rfl, Nat.le_of_ble_eq_true rfl⟩ ao (fun hh => c_Exam_hasCandidate hw ao ax2 hh q6) rfl rfl (Nat.le_of_ble_eq_true rfl) D_Exam_hasTwo_0.1.2.2.2 rfl (fun f5 => ?_)
      refine z_if_eq (tgt := 25) (pc' := 16) I (b01.R f5) D_Exam_hasTwo_0.2.1.1.1 rfl rfl (fun c8 => ?_) (fun c8 => ?_)
      · refine z_s I (s_iconst (pc' := 26) D_Exam_hasTwo_0.2.2.2.1 rfl) ?_
        exact z_ret (w := some (vI 0)) I (fun g => gk0 _ g bz0) ⟨_, bz0, rfl⟩ D_Exam_hasTwo_0.2.2.2.2 rfl
      · refine z_s I (s_iload_n (pc' := 17) 1 rfl D_Exam_hasTwo_0.2.1.1.2 rfl rfl) ?_
        refine z_s I (s_iload_n (pc' := 18) 2 rfl D_Exam_hasTwo_0.2.1.2.1 rfl rfl) ?_
        refine z_icmp_eq (tgt := 25) (pc' := 21) I ax1 ax2 D_Exam_hasTwo_0.2.1.2.2 rfl rfl (fun c9 => ?_) (fun c9 => ?_)
        · refine z_s I (s_iconst (pc' := 26) D_Exam_hasTwo_0.2.2.2.1 rfl) ?_
          exact z_ret (w := some (vI 0)) I (fun g => gk0 _ g bz0) ⟨_, bz0, rfl⟩ D_Exam_hasTwo_0.2.2.2.2 rfl
        · refine z_s I (s_iconst (pc' := 22) D_Exam_hasTwo_0.2.2.1.1 rfl) ?_
          refine z_s I (s_goto (tgt := 26) D_Exam_hasTwo_0.2.2.1.2 rfl) ?_
          exact z_ret (w := some (vI 1)) I (fun g => gk0 _ g bz1) ⟨_, bz1, rfl⟩ D_Exam_hasTwo_0.2.2.2.2 rfl
  exact main _ hF (by rw [hG0])
set_option maxHeartbeats 4000000 in
set_option maxRecDepth 20000 in
theorem c_Odds_learn {l : Launch} {τ : TP} {o : Int} {r1 : Int} {x2 : Int} {x3 : Int} {x4 : Int} {h : HP} {h' : HP} (hw : wf τ) (ao : ok τ (4, 3) o) (ar1 : ok τ (4, 1) r1) (ax2 : inR x2) (ax3 : inR x3) (ax4 : inR x4) (hh : hr τ h) (hF : m_Odds_learn o r1 x2 x3 x4 h = some h') : Ctr l y_Odds_learn k_Odds_learn 7 (Option.none : Option FieldType) 0 0 τ (fun ad => [vR ad o, vR ad r1, vI x2, vI x3, vI x4]) h none h' (True) := by
  refine ctr_of (by decide) hw hh (fun ad => Nat.le_of_ble_eq_true rfl) (fun ad K Y I hK => ?_)
  obtain ⟨G0, hG0⟩ : ∃ G : HP → Prop, G = fun x => x = h' := ⟨_, rfl⟩
  have gk0 : ∀ (x : HP), G0 x → K none x := fun x g => by
    rw [hG0] at g
    cases g
    exact hK trivial
  have L3 : ∀ (s : Int × HP), (inR (s.1)) → Z Y (m_Odds_learn_L3 o r1 x2 x3 x4 s) G0 (s.2) 3 [(0, vR ad o), (1, vR ad r1), (2, vI x2), (3, vI x3), (4, vI x4), (5, vI (s.1))] [] := by
    intro s hs
    refine z_loop (G := G0) (hO := fun s : Int × HP => s.2) (lO := fun s : Int × HP => [(0, vR ad o), (1, vR ad r1), (2, vI x2), (3, vI x3), (4, vI x4), (5, vI (s.1))]) (Φ := fun s : Int × HP => inR (s.1)) (fun G1 hin1_1 hout1 s hs => ?_) FUEL s hs
    obtain ⟨x5, h⟩ := s
    have ax5 := hs
    have gk1 := fun (x : HP) (g : G1 (.inr (x))) => gk0 x (hout1 _ g)
    show Z Y (m_Odds_learn_L3b o r1 x2 x3 x4 x5 h) G1 h 3 [(0, vR ad o), (1, vR ad r1), (2, vI x2), (3, vI x3), (4, vI x4), (5, vI x5)] []
    unfold m_Odds_learn_L3b
    refine z_s I (s_iload (pc' := 5) 5 rfl D_Odds_learn_0.1.1.2.1 rfl) ?_
    refine z_s I (s_aload_n (pc' := 6) 1 rfl D_Odds_learn_0.1.1.2.2 rfl rfl) ?_
    refine z_getI (pc' := 9) (jI := 1) I g_Odds_95 ar1 rfl rfl D_Odds_learn_0.1.2.1.1 rfl (fun f1 => ?_)
    refine z_icmp_ge (tgt := 58) (pc' := 12) I ax5 f1 D_Odds_learn_0.1.2.1.2 rfl rfl (fun c2 => ?_) (fun c2 => ?_)
    · exact z_ret (w := none) I (fun g => gk1 _ g) rfl D_Odds_learn_1.2.2.2.2 rfl
    · refine z_s I (s_aload_n (pc' := 13) 1 rfl D_Odds_learn_0.1.2.2.1 rfl rfl) ?_
      refine z_getR (pc' := 16) (eI := r1 + 12) I g_Odds_98 ar1 rfl (by omega) D_Odds_learn_0.1.2.2.2 rfl ?_
      have k3 : ok τ (3, 1) (r1 + 12) := r_Exam_given hw ar1 (by omega)
      refine z_s I (s_iload (pc' := 18) 5 rfl D_Odds_learn_0.2.1.1.1 rfl) ?_
      refine z_aald (pc' := 19) (eI := r1 + x5 + 13) I 8 1 1 k3 ax5 rfl rfl rfl (by omega) D_Odds_learn_0.2.1.1.2 rfl (fun c4 => ?_)
      have k5 : ok τ (0, 8) (r1 + x5 + 13) := e_1 hw k3 c4 (by omega)
      refine z_s I (s_iload_n (pc' := 20) 2 rfl D_Odds_learn_0.2.1.2.1 rfl rfl) ?_
      refine z_iald (pc' := 21) (nI := 8) I k5 ax2 rfl D_Odds_learn_0.2.1.2.2 rfl (fun c6 f7 => ?_)
      refine z_bI f7 (fun v8 e9 f10 => ?_)
      refine z_s I (s_istore (pc' := 23) (lv' := [(6, vI v8), (0, vR ad o), (1, vR ad r1), (2, vI x2), (3, vI x3), (4, vI x4), (5, vI x5)]) D_Odds_learn_0.2.2.1.1 (by decide) rfl rfl) ?_
      refine z_s I (s_iload (pc' := 25) 0 rfl D_Odds_learn_0.2.2.1.2 rfl) ?_
      refine z_if_lt (tgt := 52) (pc' := 28) I f10 D_Odds_learn_0.2.2.2.1 rfl rfl (fun c11 => ?_) (fun c11 => ?_)
      · refine z_s I (s_iinc (pc' := 55) (lv' := [(5, vI (w32 (x5 + 1))), (6, vI v8), (0, vR ad o), (1, vR ad r1), (2, vI x2), (3, vI x3), (4, vI x4)]) (n := 6) rfl D_Odds_learn_1.2.2.1.2 (by decide) rfl rfl) ?_
        refine z_s I (s_goto (tgt := 3) D_Odds_learn_1.2.2.2.1 rfl) ?_
        refine z_s I (s_lv (lv' := [(0, vR ad o), (1, vR ad r1), (2, vI x2), (3, vI x3), (4, vI x4), (5, vI (w32 (x5 + 1)))]) [2, 3, 4, 5, 6, 0] rfl) ?_
        exact z_end (fun g => hin1_1 _ g (inR_w32 _))
      · refine z_s I (s_iload (pc' := 30) 6 rfl D_Odds_learn_0.2.2.2.2 rfl) ?_
        refine z_s I (s_iload_n (pc' := 31) 4 rfl D_Odds_learn_1.1.1.1.1 rfl rfl) ?_
        refine z_icmp_eq (tgt := 52) (pc' := 34) I ax5 ax3 D_Odds_learn_1.1.1.1.2 rfl rfl (fun c12 => ?_) (fun c12 => ?_)
        · refine z_s I (s_iinc (pc' := 55) (lv' := [(5, vI (w32 (x5 + 1))), (6, vI v8), (0, vR ad o), (1, vR ad r1), (2, vI x2), (3, vI x3), (4, vI x4)]) (n := 6) rfl D_Odds_learn_1.2.2.1.2 (by decide) rfl rfl) ?_
          refine z_s I (s_goto (tgt := 3) D_Odds_learn_1.2.2.2.1 rfl) ?_
          refine z_s I (s_lv (lv' := [(0, vR ad o), (1, vR ad r1), (2, vI x2), (3, vI x3), (4, vI x4), (5, vI (w32 (x5 + 1)))]) [2, 3, 4, 5, 6, 0] rfl) ?_
          exact z_end (fun g => hin1_1 _ g (inR_w32 _))
        · refine z_s I (s_iload (pc' := 36) 6 rfl D_Odds_learn_1.1.1.2.1 rfl) ?_
          refine z_s I (s_iload (pc' := 38) 5 rfl D_Odds_learn_1.1.1.2.2 rfl) ?_
          refine z_icmp_eq (tgt := 52) (pc' := 41) I ax5 ax4 D_Odds_learn_1.1.2.1.1 rfl rfl (fun c13 => ?_) (fun c13 => ?_)
          · refine z_s I (s_iinc (pc' := 55) (lv' := [(5, vI (w32 (x5 + 1))), (6, vI v8), (0, vR ad o), (1, vR ad r1), (2, vI x2), (3, vI x3), (4, vI x4)]) (n := 6) rfl D_Odds_learn_1.2.2.1.2 (by decide) rfl rfl) ?_
            refine z_s I (s_goto (tgt := 3) D_Odds_learn_1.2.2.2.1 rfl) ?_
            refine z_s I (s_lv (lv' := [(0, vR ad o), (1, vR ad r1), (2, vI x2), (3, vI x3), (4, vI x4), (5, vI (w32 (x5 + 1)))]) [2, 3, 4, 5, 6, 0] rfl) ?_
            exact z_end (fun g => hin1_1 _ g (inR_w32 _))
          · refine z_s I (s_aload_n (pc' := 42) 1 rfl D_Odds_learn_1.1.2.1.2 rfl rfl) ?_
            refine z_getR (pc' := 45) (eI := o + 1) I g_Odds_9 ao rfl (by omega) D_Odds_learn_1.1.2.2.1 rfl ?_
            have k14 : ok τ (0, 4) (o + 1) := r_Odds_shares hw ao (by omega)
            refine z_s I (s_iload (pc' := 47) 0 rfl D_Odds_learn_1.1.2.2.2 rfl) ?_
            refine z_s I (s_dup2 (pc' := 48) rfl rfl D_Odds_learn_1.2.1.1.1 rfl) ?_
            refine z_iald (pc' := 49) (nI := 4) I k14 f10 rfl D_Odds_learn_1.2.1.1.2 rfl (fun c15 f16 => ?_)
            refine z_s I (s_iconst (pc' := 50) D_Odds_learn_1.2.1.2.1 rfl) ?_
            refine z_s I (s_iadd (pc' := 51) D_Odds_learn_1.2.1.2.2 rfl) ?_
            refine z_iast (pc' := 52) (nI := 4) I k14 f10 (inR_w32 _) rfl D_Odds_learn_1.2.2.1.1 rfl (fun c17 => ?_)
            refine z_bH (fun h18 e19 => ?_)
            refine z_s I (s_iinc (pc' := 55) (lv' := [(5, vI (w32 (x5 + 1))), (6, vI v8), (0, vR ad o), (1, vR ad r1), (2, vI x2), (3, vI x3), (4, vI x4)]) (n := 6) rfl D_Odds_learn_1.2.2.1.2 (by decide) rfl rfl) ?_
            refine z_s I (s_goto (tgt := 3) D_Odds_learn_1.2.2.2.1 rfl) ?_
            refine z_s I (s_lv (lv' := [(0, vR ad o), (1, vR ad r1), (2, vI x2), (3, vI x3), (4, vI x4), (5, vI (w32 (x5 + 1)))]) [2, 3, 4, 5, 6, 0] rfl) ?_
            exact z_end (fun g => hin1_1 _ g (inR_w32 _))
  have main : Z Y (m_Odds_learn o r1 x2 x3 x4 h) G0 h 0 [(0, vR ad o), (1, vR ad r1), (2, vI x2), (3, vI x3), (4, vI x4)] [] := by
    unfold m_Odds_learn
    refine z_s I (s_iconst (pc' := 1) D_Odds_learn_0.1.1.1.1 rfl) ?_
    refine z_s I (s_istore (pc' := 3) (lv' := [(5, vI 0), (0, vR ad o), (1, vR ad r1), (2, vI x2), (3, vI x3), (4, vI x4)]) D_Odds_learn_0.1.1.1.2 (by decide) rfl rfl) ?_
    refine z_s I (s_lv (lv' := [(0, vR ad o), (1, vR ad r1), (2, vI x2), (3, vI x3), (4, vI x4), (5, vI 0)]) [1, 2, 3, 4, 5, 0] rfl) ?_
    exact L3 _ (b01.R bz0)
  exact main _ hF (by rw [hG0])
set_option maxHeartbeats 4000000 in
set_option maxRecDepth 20000 in
theorem c_Odds_takeShares {l : Launch} {τ : TP} {o : Int} {r1 : Int} {x2 : Int} {x3 : Int} {x4 : Int} {h : HP} {h' : HP} (hw : wf τ) (ao : ok τ (4, 3) o) (ar1 : ok τ (4, 1) r1) (ax2 : inR x2) (ax3 : inR x3) (ax4 : inR x4) (hh : hr τ h) (hF : m_Odds_takeShares o r1 x2 x3 x4 h = some h') : Ctr l y_Odds_takeShares k_Odds_takeShares 7 (Option.none : Option FieldType) 1 26 τ (fun ad => [vR ad o, vR ad r1, vI x2, vI x3, vI x4]) h none h' (True) := by
  refine ctr_of (by decide) hw hh (fun ad => Nat.le_of_ble_eq_true rfl) (fun ad K Y I hK => ?_)
  obtain ⟨G0, hG0⟩ : ∃ G : HP → Prop, G = fun x => x = h' := ⟨_, rfl⟩
  have gk0 : ∀ (x : HP), G0 x → K none x := fun x g => by
    rw [hG0] at g
    cases g
    exact hK trivial
  have L103 : ∀ (s : Int × HP), (inR (s.1)) → Z Y (m_Odds_takeShares_L103 o s) G0 (s.2) 103 [(0, vR ad o), (6, vI (s.1))] [] := by
    intro s hs
    refine z_loop (G := G0) (hO := fun s : Int × HP => s.2) (lO := fun s : Int × HP => [(0, vR ad o), (6, vI (s.1))]) (Φ := fun s : Int × HP => inR (s.1)) (fun G1 hin1_1 hout1 s hs => ?_) FUEL s hs
    obtain ⟨x6, h⟩ := s
    have ax6 := hs
    have gk1 := fun (x : HP) (g : G1 (.inr (x))) => gk0 x (hout1 _ g)
    show Z Y (m_Odds_takeShares_L103b o x6 h) G1 h 103 [(0, vR ad o), (6, vI x6)] []
    unfold m_Odds_takeShares_L103b
    refine z_s I (s_iload (pc' := 105) 1 rfl D_Odds_takeShares_3.2.1.1.2 rfl) ?_
    refine z_s I (s_iconst (pc' := 106) D_Odds_takeShares_3.2.1.2.1 rfl) ?_
    refine z_icmp_ge (tgt := 157) (pc' := 109) I ax6 (inR_c (x := 4) rfl) D_Odds_takeShares_3.2.1.2.2 rfl rfl (fun c1 => ?_) (fun c1 => ?_)
    · exact z_ret (w := none) I (fun g => gk1 _ g) rfl D_Odds_takeShares_5.2.2.2 rfl
    · refine z_s I (s_aload_n (pc' := 110) 0 rfl D_Odds_takeShares_3.2.2.1.1 rfl rfl) ?_
      refine z_s I (s_dup (pc' := 111) rfl D_Odds_takeShares_3.2.2.1.2 rfl) ?_
      refine z_getI (pc' := 114) (jI := 1) I g_Odds_15 ao rfl rfl D_Odds_takeShares_3.2.2.2.1 rfl (fun f2 => ?_)
      refine z_s I (s_aload_n (pc' := 115) 0 rfl D_Odds_takeShares_3.2.2.2.2 rfl rfl) ?_
      refine z_getR (pc' := 118) (eI := o + 1) I g_Odds_9 ao rfl (by omega) D_Odds_takeShares_4.1.1.1.1 rfl ?_
      have k3 : ok τ (0, 4) (o + 1) := r_Odds_shares hw ao (by omega)
      refine z_s I (s_iload (pc' := 120) 1 rfl D_Odds_takeShares_4.1.1.1.2 rfl) ?_
      refine z_iald (pc' := 121) (nI := 4) I k3 ax6 rfl D_Odds_takeShares_4.1.1.2.1 rfl (fun c4 f5 => ?_)
      refine z_s I (s_iadd (pc' := 122) D_Odds_takeShares_4.1.1.2.2 rfl) ?_
      refine z_putI (pc' := 125) (jI := 1) I p_Odds_15 ao rfl rfl (inR_w32 _) D_Odds_takeShares_4.1.2.1.1 rfl ?_
      refine z_bH (fun h6 e7 => ?_)
      refine z_s I (s_aload_n (pc' := 126) 0 rfl D_Odds_takeShares_4.1.2.1.2 rfl rfl) ?_
      refine z_s I (s_dup (pc' := 127) rfl D_Odds_takeShares_4.1.2.2.1 rfl) ?_
      refine z_getL (pc' := 130) (jI := 2) I g_Odds_19 ao rfl rfl D_Odds_takeShares_4.1.2.2.2 rfl (fun f8 => ?_)
      refine z_s I (s_aload_n (pc' := 131) 0 rfl D_Odds_takeShares_4.2.1.1.1 rfl rfl) ?_
      refine z_getR (pc' := 134) (eI := o + 1) I g_Odds_9 ao rfl (by omega) D_Odds_takeShares_4.2.1.1.2 rfl ?_
      have k9 : ok τ (0, 4) (o + 1) := r_Odds_shares hw ao (by omega)
      refine z_s I (s_iload (pc' := 136) 1 rfl D_Odds_takeShares_4.2.1.2.1 rfl) ?_
      refine z_iald (pc' := 137) (nI := 4) I k9 ax6 rfl D_Odds_takeShares_4.2.1.2.2 rfl (fun c10 f11 => ?_)
      refine z_s I (s_i2l (pc' := 138) f11 D_Odds_takeShares_4.2.2.1.1 rfl) ?_
      refine z_s I (s_aload_n (pc' := 139) 0 rfl D_Odds_takeShares_4.2.2.1.2 rfl rfl) ?_
      refine z_getR (pc' := 142) (eI := o + 1) I g_Odds_9 ao rfl (by omega) D_Odds_takeShares_4.2.2.2.1 rfl ?_
      have k12 : ok τ (0, 4) (o + 1) := r_Odds_shares hw ao (by omega)
      refine z_s I (s_iload (pc' := 144) 1 rfl D_Odds_takeShares_4.2.2.2.2 rfl) ?_
      refine z_iald (pc' := 145) (nI := 4) I k12 ax6 rfl D_Odds_takeShares_5.1.1.1 rfl (fun c13 f14 => ?_)
      refine z_s I (s_i2l (pc' := 146) f14 D_Odds_takeShares_5.1.1.2 rfl) ?_
      refine z_s I (s_lmul (pc' := 147) D_Odds_takeShares_5.1.2.1 rfl) ?_
      refine z_s I (s_ladd (pc' := 148) D_Odds_takeShares_5.1.2.2 rfl) ?_
      refine z_putL (pc' := 151) (jI := 2) I p_Odds_19 ao rfl rfl (inL_w64 _) D_Odds_takeShares_5.2.1.1 rfl ?_
      refine z_bH (fun h15 e16 => ?_)
      refine z_s I (s_iinc (pc' := 154) (lv' := [(6, vI (w32 (x6 + 1))), (0, vR ad o)]) (n := 1) rfl D_Odds_takeShares_5.2.1.2 (by decide) rfl rfl) ?_
      refine z_s I (s_goto (tgt := 103) D_Odds_takeShares_5.2.2.1 rfl) ?_
      refine z_s I (s_lv (lv' := [(0, vR ad o), (6, vI (w32 (x6 + 1)))]) [1, 0] rfl) ?_
      exact z_end (fun g => hin1_1 _ g (inR_w32 _))
  have J90 : ∀ (h : HP), Z Y (m_Odds_takeShares_J90 o h) G0 h 90 [(0, vR ad o)] [] := by
    intro h
    unfold m_Odds_takeShares_J90
    refine z_s I (s_aload_n (pc' := 91) 0 rfl D_Odds_takeShares_3.1.1.1.2 rfl rfl) ?_
    refine z_s I (s_iconst (pc' := 92) D_Odds_takeShares_3.1.1.2.1 rfl) ?_
    refine z_putI (pc' := 95) (jI := 1) I p_Odds_15 ao rfl rfl (b01.R bz0) D_Odds_takeShares_3.1.1.2.2 rfl ?_
    refine z_bH (fun h17 e18 => ?_)
    refine z_s I (s_aload_n (pc' := 96) 0 rfl D_Odds_takeShares_3.1.2.1.1 rfl rfl) ?_
    refine z_s I (s_lconst (pc' := 97) (x := 0) D_Odds_takeShares_3.1.2.1.2 rfl rfl) ?_
    refine z_putL (pc' := 100) (jI := 2) I p_Odds_19 ao rfl rfl (inL_c (x := 0) rfl) D_Odds_takeShares_3.1.2.2.1 rfl ?_
    refine z_bH (fun h19 e20 => ?_)
    refine z_s I (s_iconst (pc' := 101) D_Odds_takeShares_3.1.2.2.2 rfl) ?_
    refine z_s I (s_istore (pc' := 103) (lv' := [(6, vI 0), (0, vR ad o)]) D_Odds_takeShares_3.2.1.1.1 (by decide) rfl rfl) ?_
    refine z_s I (s_lv (lv' := [(0, vR ad o), (6, vI 0)]) [1, 0] rfl) ?_
    exact L103 _ (b01.R bz0)
  have J87 : ∀ (s0 : Int) (as0 : ok τ (4, 3) s0) (s1 : Int) (as1 : ok τ (4, 1) s1) (s2 : Int) (as2 : inR s2) (s3 : Int) (as3 : inR s3) (s4 : Int) (as4 : inR s4) (h : HP), Z Y (m_Odds_takeShares_J87 o s0 s1 s2 s3 s4 h) G0 h 87 [(0, vR ad o)] [vI s4, vI s3, vI s2, vR ad s1, vR ad s0] := by
    intro s0 as0 s1 as1 s2 as2 s3 as3 s4 as4 h
    unfold m_Odds_takeShares_J87
    refine z_b1 (fun h23 q22 => ?_)
    refine z_callV (pc' := 90) I mv_Odds_learn ml_Odds_92 (fun ad => [vR ad s1, vI s2, vI s3, vI s4]) ⟨Nat.le_of_ble_eq_true rfl, Nat.le_of_ble_eq_true rfl⟩ as0 (fun hh => c_Odds_learn hw as0 as1 as2 as3 as4 hh q22) rfl rfl (Nat.le_of_ble_eq_true rfl) D_Odds_takeShares_3.1.1.1.1 rfl (fun f21 => ?_)
    exact J90 _
  have J75 : ∀ (x5 : Int) (ax5 : inR x5) (s0 : Int) (as0 : ok τ (4, 3) s0) (s1 : Int) (as1 : ok τ (4, 1) s1) (s2 : Int) (as2 : inR s2) (s3 : Int) (as3 : inR s3) (h : HP), Z Y (m_Odds_takeShares_J75 o x4 x5 s0 s1 s2 s3 h) G0 h 75 [(0, vR ad o), (4, vI x4), (5, vI x5)] [vI s3, vI s2, vR ad s1, vR ad s0] := by
    intro x5 ax5 s0 as0 s1 as1 s2 as2 s3 as3 h
    unfold m_Odds_takeShares_J75
    refine z_s I (s_iload (pc' := 77) 2 rfl D_Odds_takeShares_2.2.1.2.1 rfl) ?_
    refine z_s I (s_iconst (pc' := 78) D_Odds_takeShares_2.2.1.2.2 rfl) ?_
    refine z_icmp_ne (tgt := 86) (pc' := 81) I ax5 (inR_c (x := 3) rfl) D_Odds_takeShares_2.2.2.1.1 rfl rfl (fun c24 => ?_) (fun c24 => ?_)
    · refine z_s I (s_iconst (pc' := 87) D_Odds_takeShares_2.2.2.2.2 rfl) ?_
      refine z_s I (s_lv (lv' := [(0, vR ad o)]) [0] rfl) ?_
      exact J87 _ as0 _ as1 _ as2 _ as3 _ (inR_c (x := (-1)) rfl) _
    · refine z_s I (s_iload (pc' := 83) 1 rfl D_Odds_takeShares_2.2.2.1.2 rfl) ?_
      refine z_s I (s_goto (tgt := 87) D_Odds_takeShares_2.2.2.2.1 rfl) ?_
      refine z_s I (s_lv (lv' := [(0, vR ad o)]) [0] rfl) ?_
      exact J87 _ as0 _ as1 _ as2 _ as3 _ ax4 _
  have J61 : ∀ (x5 : Int) (ax5 : inR x5) (h : HP), Z Y (m_Odds_takeShares_J61 o r1 x2 x3 x4 x5 h) G0 h 61 [(0, vR ad o), (1, vR ad r1), (2, vI x2), (3, vI x3), (4, vI x4), (5, vI x5)] [] := by
    intro x5 ax5 h
    unfold m_Odds_takeShares_J61
    refine z_s I (s_aload_n (pc' := 62) 0 rfl D_Odds_takeShares_2.1.1.1.2 rfl rfl) ?_
    refine z_s I (s_aload_n (pc' := 63) 1 rfl D_Odds_takeShares_2.1.1.2.1 rfl rfl) ?_
    refine z_s I (s_iload_n (pc' := 64) 2 rfl D_Odds_takeShares_2.1.1.2.2 rfl rfl) ?_
    refine z_s I (s_iload (pc' := 66) 5 rfl D_Odds_takeShares_2.1.2.1.1 rfl) ?_
    refine z_s I (s_iconst (pc' := 67) D_Odds_takeShares_2.1.2.1.2 rfl) ?_
    refine z_icmp_ne (tgt := 74) (pc' := 70) I ax5 (inR_c (x := 3) rfl) D_Odds_takeShares_2.1.2.2.1 rfl rfl (fun c25 => ?_) (fun c25 => ?_)
    · refine z_s I (s_iconst (pc' := 75) D_Odds_takeShares_2.2.1.1.2 rfl) ?_
      refine z_s I (s_lv (lv' := [(0, vR ad o), (4, vI x4), (5, vI x5)]) [0, 4, 5] rfl) ?_
      exact J75 _ ax5 _ ao _ ar1 _ ax2 _ (inR_c (x := (-1)) rfl) _
    · refine z_s I (s_iload_n (pc' := 71) 3 rfl D_Odds_takeShares_2.1.2.2.2 rfl rfl) ?_
      refine z_s I (s_goto (tgt := 75) D_Odds_takeShares_2.2.1.1.1 rfl) ?_
      refine z_s I (s_lv (lv' := [(0, vR ad o), (4, vI x4), (5, vI x5)]) [0, 4, 5] rfl) ?_
      exact J75 _ ax5 _ ao _ ar1 _ ax2 _ ax3 _
  have J49 : ∀ (x5 : Int) (ax5 : inR x5) (h : HP), Z Y (m_Odds_takeShares_J49 o r1 x2 x3 x4 x5 h) G0 h 49 [(0, vR ad o), (1, vR ad r1), (2, vI x2), (3, vI x3), (4, vI x4), (5, vI x5)] [] := by
    intro x5 ax5 h
    unfold m_Odds_takeShares_J49
    refine z_s I (s_iload (pc' := 51) 5 rfl D_Odds_takeShares_1.2.1.2.2 rfl) ?_
    refine z_s I (s_iconst (pc' := 52) D_Odds_takeShares_1.2.2.1.1 rfl) ?_
    refine z_icmp_eq (tgt := 61) (pc' := 55) I ax5 (inR_c (x := 2) rfl) D_Odds_takeShares_1.2.2.1.2 rfl rfl (fun c26 => ?_) (fun c26 => ?_)
    · exact J61 _ ax5 _
    · refine z_s I (s_iload (pc' := 57) 5 rfl D_Odds_takeShares_1.2.2.2.1 rfl) ?_
      refine z_s I (s_iconst (pc' := 58) D_Odds_takeShares_1.2.2.2.2 rfl) ?_
      refine z_icmp_ne (tgt := 90) (pc' := 61) I ax5 (inR_c (x := 3) rfl) D_Odds_takeShares_2.1.1.1.1 rfl rfl (fun c27 => ?_) (fun c27 => ?_)
      · refine z_s I (s_lv (lv' := [(0, vR ad o)]) [0] rfl) ?_
        exact J90 _
      · exact J61 _ ax5 _
  have L11 : ∀ (x5 : Int) (ax5 : inR x5) (s : Int × HP), (inR (s.1)) → Z Y (m_Odds_takeShares_L11 o r1 x2 x3 x4 x5 s) G0 (s.2) 11 [(0, vR ad o), (1, vR ad r1), (2, vI x2), (3, vI x3), (4, vI x4), (5, vI x5), (6, vI (s.1))] [] := by
    intro x5 ax5 s hs
    refine z_loop (G := G0) (hO := fun s : Int × HP => s.2) (lO := fun s : Int × HP => [(0, vR ad o), (1, vR ad r1), (2, vI x2), (3, vI x3), (4, vI x4), (5, vI x5), (6, vI (s.1))]) (Φ := fun s : Int × HP => inR (s.1)) (fun G1 hin1_1 hout1 s hs => ?_) FUEL s hs
    obtain ⟨x6, h⟩ := s
    have ax6 := hs
    have gk1 := fun (x : HP) (g : G1 (.inr (x))) => gk0 x (hout1 _ g)
    have J42 : ∀ (x6 : Int) (ax6 : inR x6) (s0 : Int) (as0 : ok τ (0, 4) s0) (s1 : Int) (as1 : inR s1) (s2 : Int) (as2 : inR s2) (h : HP), Z Y (m_Odds_takeShares_J42 o r1 x2 x3 x4 x5 x6 s0 s1 s2 h) G1 h 42 [(0, vR ad o), (1, vR ad r1), (2, vI x2), (3, vI x3), (4, vI x4), (5, vI x5), (6, vI x6)] [vI s2, vI s1, vR ad s0] := by
      intro x6 ax6 s0 as0 s1 as1 s2 as2 h
      unfold m_Odds_takeShares_J42
      refine z_iast (pc' := 43) (nI := 4) I as0 as1 as2 rfl D_Odds_takeShares_1.2.1.1.1 rfl (fun c28 => ?_)
      refine z_bH (fun h29 e30 => ?_)
      refine z_s I (s_iinc (pc' := 46) (lv' := [(6, vI (w32 (x6 + 1))), (0, vR ad o), (1, vR ad r1), (2, vI x2), (3, vI x3), (4, vI x4), (5, vI x5)]) (n := 6) rfl D_Odds_takeShares_1.2.1.1.2 (by decide) rfl rfl) ?_
      refine z_s I (s_goto (tgt := 11) D_Odds_takeShares_1.2.1.2.1 rfl) ?_
      refine z_s I (s_lv (lv' := [(0, vR ad o), (1, vR ad r1), (2, vI x2), (3, vI x3), (4, vI x4), (5, vI x5), (6, vI (w32 (x6 + 1)))]) [1, 2, 3, 4, 5, 6, 0] rfl) ?_
      exact z_end (fun g => hin1_1 _ g (inR_w32 _))
    show Z Y (m_Odds_takeShares_L11b o r1 x2 x3 x4 x5 x6 h) G1 h 11 [(0, vR ad o), (1, vR ad r1), (2, vI x2), (3, vI x3), (4, vI x4), (5, vI x5), (6, vI x6)] []
    unfold m_Odds_takeShares_L11b
    refine z_s I (s_iload (pc' := 13) 6 rfl D_Odds_takeShares_0.1.2.2.2 rfl) ?_
    refine z_s I (s_iconst (pc' := 14) D_Odds_takeShares_0.2.1.1.1 rfl) ?_
    refine z_icmp_ge (tgt := 49) (pc' := 17) I ax6 (inR_c (x := 4) rfl) D_Odds_takeShares_0.2.1.1.2 rfl rfl (fun c31 => ?_) (fun c31 => ?_)
    · refine z_map _ (fun x g => hout1 x g) ?_
      refine z_s I (s_lv (lv' := [(0, vR ad o), (1, vR ad r1), (2, vI x2), (3, vI x3), (4, vI x4), (5, vI x5)]) [0, 1, 2, 3, 4, 5] rfl) ?_
      exact J49 _ ax5 _
    · refine z_s I (s_aload_n (pc' := 18) 0 rfl D_Odds_takeShares_0.2.1.2.1 rfl rfl) ?_
      refine z_getR (pc' := 21) (eI := o + 1) I g_Odds_9 ao rfl (by omega) D_Odds_takeShares_0.2.1.2.2 rfl ?_
      have k32 : ok τ (0, 4) (o + 1) := r_Odds_shares hw ao (by omega)
      refine z_s I (s_iload (pc' := 23) 6 rfl D_Odds_takeShares_0.2.2.1.1 rfl) ?_
      refine z_s I (s_iload (pc' := 25) 5 rfl D_Odds_takeShares_0.2.2.1.2 rfl) ?_
      refine z_s I (s_iconst (pc' := 26) D_Odds_takeShares_0.2.2.2.1 rfl) ?_
      refine z_icmp_ne (tgt := 41) (pc' := 29) I ax5 (b01.R bz1) D_Odds_takeShares_0.2.2.2.2 rfl rfl (fun c33 => ?_) (fun c33 => ?_)
      · refine z_s I (s_iconst (pc' := 42) D_Odds_takeShares_1.1.2.2.2 rfl) ?_
        exact J42 _ ax6 _ k32 _ ax6 _ (b01.R bz1) _
      · refine z_s I (s_aload_n (pc' := 30) 1 rfl D_Odds_takeShares_1.1.1.1.1 rfl rfl) ?_
        refine z_getR (pc' := 33) (eI := r1 + 3) I g_Odds_88 ar1 rfl (by omega) D_Odds_takeShares_1.1.1.1.2 rfl ?_
        have k34 : ok τ (3, 0) (r1 + 3) := r_Exam_parts hw ar1 (by omega)
        refine z_s I (s_iload_n (pc' := 34) 2 rfl D_Odds_takeShares_1.1.1.2.1 rfl rfl) ?_
        refine z_aald (pc' := 35) (eI := r1 + x2 + 4) I 8 1 1 k34 ax2 rfl rfl rfl (by omega) D_Odds_takeShares_1.1.1.2.2 rfl (fun c35 => ?_)
        have k36 : ok τ (0, 4) (r1 + x2 + 4) := e_0 hw k34 c35 (by omega)
        refine z_s I (s_iload (pc' := 37) 6 rfl D_Odds_takeShares_1.1.2.1.1 rfl) ?_
        refine z_iald (pc' := 38) (nI := 4) I k36 ax6 rfl D_Odds_takeShares_1.1.2.1.2 rfl (fun c37 f38 => ?_)
        refine z_s I (s_goto (tgt := 42) D_Odds_takeShares_1.1.2.2.1 rfl) ?_
        exact J42 _ ax6 _ k32 _ ax6 _ f38 _
  have main : Z Y (m_Odds_takeShares o r1 x2 x3 x4 h) G0 h 0 [(0, vR ad o), (1, vR ad r1), (2, vI x2), (3, vI x3), (4, vI x4)] [] := by
    unfold m_Odds_takeShares
    refine z_s I (s_aload_n (pc' := 1) 1 rfl D_Odds_takeShares_0.1.1.1.1 rfl rfl) ?_
    refine z_getR (pc' := 4) (eI := r1 + 2) I g_Odds_85 ar1 rfl (by omega) D_Odds_takeShares_0.1.1.1.2 rfl ?_
    have k39 : ok τ (0, 8) (r1 + 2) := r_Exam_kind hw ar1 (by omega)
    refine z_s I (s_iload_n (pc' := 5) 2 rfl D_Odds_takeShares_0.1.1.2.1 rfl rfl) ?_
    refine z_iald (pc' := 6) (nI := 8) I k39 ax2 rfl D_Odds_takeShares_0.1.1.2.2 rfl (fun c40 f41 => ?_)
    refine z_bI f41 (fun v42 e43 f44 => ?_)
    refine z_s I (s_istore (pc' := 8) (lv' := [(5, vI v42), (0, vR ad o), (1, vR ad r1), (2, vI x2), (3, vI x3), (4, vI x4)]) D_Odds_takeShares_0.1.2.1.1 (by decide) rfl rfl) ?_
    refine z_s I (s_iconst (pc' := 9) D_Odds_takeShares_0.1.2.1.2 rfl) ?_
    refine z_s I (s_istore (pc' := 11) (lv' := [(6, vI 0), (5, vI v42), (0, vR ad o), (1, vR ad r1), (2, vI x2), (3, vI x3), (4, vI x4)]) D_Odds_takeShares_0.1.2.2.1 (by decide) rfl rfl) ?_
    refine z_s I (s_lv (lv' := [(0, vR ad o), (1, vR ad r1), (2, vI x2), (3, vI x3), (4, vI x4), (5, vI v42), (6, vI 0)]) [2, 3, 4, 5, 6, 1, 0] rfl) ?_
    exact L11 _ f44 _ (b01.R bz0)
  exact main _ hF (by rw [hG0])
set_option maxHeartbeats 4000000 in
set_option maxRecDepth 20000 in
theorem c_Cb_share {l : Launch} {τ : TP} {o : Int} {x1 : Int} {x2 : Int} {x3 : Int} {x4 : Int} {h : HP} {r : Int} {h' : HP} (hw : wf τ) (ao : ok τ (4, 9) o) (ax1 : inR x1) (ax2 : inR x2) (ax3 : inR x3) (ax4 : inR x4) (hh : hr τ h) (hF : m_Cb_share o x1 x2 x3 x4 h = some (r, h')) : Ctr l y_Cb_share k_Cb_share 5 (Option.some FieldType.int) 2 52 τ (fun ad => [vR ad o, vI x1, vI x2, vI x3, vI x4]) h (some (vI r)) h' (inR r) := by
  refine ctr_of (by decide) hw hh (fun ad => Nat.le_of_ble_eq_true rfl) (fun ad K Y I hK => ?_)
  obtain ⟨G0, hG0⟩ : ∃ G : Int × HP → Prop, G = fun x => x = (r, h') := ⟨_, rfl⟩
  have gk0 : ∀ (x : Int) (y : HP), G0 (x, y) → inR x → K (some (vI x)) y := fun x y g q => by
    rw [hG0] at g
    cases g
    exact hK q
  have J41 : ∀ (h : HP), Z Y (m_Cb_share_J41 o x1 x2 x3 x4 h) G0 h 41 [(0, vR ad o), (1, vI x1), (2, vI x2), (3, vI x3), (4, vI x4)] [] := by
    intro h
    unfold m_Cb_share_J41
    refine z_s I (s_aload_n (pc' := 42) 0 rfl D_Cb_share_1.1.2.1.2 rfl rfl) ?_
    refine z_getR (pc' := 45) (eI := o + 94) I g_Cb_44 ao rfl (by omega) D_Cb_share_1.1.2.2.1 rfl ?_
    have k1 : ok τ (4, 3) (o + 94) := r_Cb_odds hw ao (by omega)
    refine z_s I (s_aload_n (pc' := 46) 0 rfl D_Cb_share_1.1.2.2.2 rfl rfl) ?_
    refine z_getR (pc' := 49) (eI := o + 1) I g_Cb_12 ao rfl (by omega) D_Cb_share_1.2.1.1.1 rfl ?_
    have k2 : ok τ (4, 1) (o + 1) := r_Cb_now hw ao (by omega)
    refine z_s I (s_iload_n (pc' := 50) 1 rfl D_Cb_share_1.2.1.1.2 rfl rfl) ?_
    refine z_s I (s_iload_n (pc' := 51) 3 rfl D_Cb_share_1.2.1.2.1 rfl rfl) ?_
    refine z_s I (s_iload (pc' := 53) 4 rfl D_Cb_share_1.2.1.2.2 rfl) ?_
    refine z_b1 (fun h5 q4 => ?_)
    refine z_callV (pc' := 56) I mv_Odds_takeShares ml_Cb_196 (fun ad => [vR ad (o + 1), vI x1, vI x3, vI x4]) ⟨Nat.le_of_ble_eq_true rfl, Nat.le_of_ble_eq_true rfl⟩ k1 (fun hh => c_Odds_takeShares hw k1 k2 ax1 ax3 ax4 hh q4) rfl rfl (Nat.le_of_ble_eq_true rfl) D_Cb_share_1.2.2.1.1 rfl (fun f3 => ?_)
    refine z_s I (s_iload_n (pc' := 57) 2 rfl D_Cb_share_1.2.2.1.2 rfl rfl) ?_
    refine z_s I (s_iconst (pc' := 58) D_Cb_share_1.2.2.2.1 rfl) ?_
    refine z_icmp_ne (tgt := 71) (pc' := 61) I ax2 (inR_c (x := (-1)) rfl) D_Cb_share_1.2.2.2.2 rfl rfl (fun c6 => ?_) (fun c6 => ?_)
    · refine z_s I (s_aload_n (pc' := 72) 0 rfl D_Cb_share_2.1.2.2.2 rfl rfl) ?_
      refine z_getR (pc' := 75) (eI := o + 94) I g_Cb_44 ao rfl (by omega) D_Cb_share_2.2.1.1 rfl ?_
      have k7 : ok τ (4, 3) (o + 94) := r_Cb_odds hw ao (by omega)
      refine z_getR (pc' := 78) (eI := o + 95) I g_Cb_203 k7 rfl (by omega) D_Cb_share_2.2.1.2 rfl ?_
      have k8 : ok τ (0, 4) (o + 95) := r_Odds_shares hw k7 (by omega)
      refine z_s I (s_iload_n (pc' := 79) 2 rfl D_Cb_share_2.2.2.1 rfl rfl) ?_
      refine z_iald (pc' := 80) (nI := 4) I k8 ax2 rfl D_Cb_share_2.2.2.2.1 rfl (fun c9 f10 => ?_)
      exact z_ret (w := some (vI (h5 (o + 95) x2))) I (fun g => gk0 _ _ g f10) ⟨_, rfl⟩ D_Cb_share_2.2.2.2.2 rfl
    · refine z_s I (s_aload_n (pc' := 62) 0 rfl D_Cb_share_2.1.1.1 rfl rfl) ?_
      refine z_getR (pc' := 65) (eI := o + 94) I g_Cb_44 ao rfl (by omega) D_Cb_share_2.1.1.2 rfl ?_
      have k11 : ok τ (4, 3) (o + 94) := r_Cb_odds hw ao (by omega)
      refine z_getI (pc' := 68) (jI := 1) I g_Cb_200 k11 rfl rfl D_Cb_share_2.1.2.1 rfl (fun f12 => ?_)
      refine z_s I (s_goto (tgt := 80) D_Cb_share_2.1.2.2.1 rfl) ?_
      exact z_ret (w := some (vI (h5 (o + 94) 1))) I (fun g => gk0 _ _ g f12) ⟨_, rfl⟩ D_Cb_share_2.2.2.2.2 rfl
  have main : Z Y (m_Cb_share o x1 x2 x3 x4 h) G0 h 0 [(0, vR ad o), (1, vI x1), (2, vI x2), (3, vI x3), (4, vI x4)] [] := by
    unfold m_Cb_share
    refine z_s I (s_aload_n (pc' := 1) 0 rfl D_Cb_share_0.1.1.1.1 rfl rfl) ?_
    refine z_getR (pc' := 4) (eI := o + 1) I g_Cb_12 ao rfl (by omega) D_Cb_share_0.1.1.1.2 rfl ?_
    have k13 : ok τ (4, 1) (o + 1) := r_Cb_now hw ao (by omega)
    refine z_s I (s_iload_n (pc' := 5) 1 rfl D_Cb_share_0.1.1.2.1 rfl rfl) ?_
    refine z_b1 (fun r16 q15 => ?_)
    refine z_callV (pc' := 8) I mv_Exam_hasItem ml_Cb_95 (fun ad => [vI x1]) ⟨Nat.le_of_ble_eq_true rfl, Nat.le_of_ble_eq_true rfl⟩ k13 (fun hh => c_Exam_hasItem hw k13 ax1 hh q15) rfl rfl (Nat.le_of_ble_eq_true rfl) D_Cb_share_0.1.1.2.2 rfl (fun f14 => ?_)
    refine z_if_eq (tgt := 24) (pc' := 11) I (b01.R f14) D_Cb_share_0.1.2.1.1 rfl rfl (fun c17 => ?_) (fun c17 => ?_)
    · refine z_s I (s_iconst (pc' := 25) D_Cb_share_0.2.1.2.2 rfl) ?_
      exact z_ret (w := some (vI (-1))) I (fun g => gk0 _ _ g (inR_c (x := (-1)) rfl)) ⟨_, rfl⟩ D_Cb_share_0.2.2.1.1 rfl
    · refine z_s I (s_aload_n (pc' := 12) 0 rfl D_Cb_share_0.1.2.1.2 rfl rfl) ?_
      refine z_getR (pc' := 15) (eI := o + 1) I g_Cb_12 ao rfl (by omega) D_Cb_share_0.1.2.2.1 rfl ?_
      have k18 : ok τ (4, 1) (o + 1) := r_Cb_now hw ao (by omega)
      refine z_s I (s_iload_n (pc' := 16) 3 rfl D_Cb_share_0.1.2.2.2 rfl rfl) ?_
      refine z_s I (s_iload (pc' := 18) 4 rfl D_Cb_share_0.2.1.1.1 rfl) ?_
      refine z_b1 (fun r21 q20 => ?_)
      refine z_callV (pc' := 21) I mv_Exam_hasTwo ml_Cb_193 (fun ad => [vI x3, vI x4]) ⟨Nat.le_of_ble_eq_true rfl, Nat.le_of_ble_eq_true rfl⟩ k18 (fun hh => c_Exam_hasTwo hw k18 ax3 ax4 hh q20) rfl rfl (Nat.le_of_ble_eq_true rfl) D_Cb_share_0.2.1.1.2 rfl (fun f19 => ?_)
      refine z_if_ne (tgt := 26) (pc' := 24) I (b01.R f19) D_Cb_share_0.2.1.2.1 rfl rfl (fun c22 => ?_) (fun c22 => ?_)
      · refine z_s I (s_iload_n (pc' := 27) 2 rfl D_Cb_share_0.2.2.1.2 rfl rfl) ?_
        refine z_s I (s_iconst (pc' := 28) D_Cb_share_0.2.2.2.1 rfl) ?_
        refine z_icmp_eq (tgt := 41) (pc' := 31) I ax2 (inR_c (x := (-1)) rfl) D_Cb_share_0.2.2.2.2 rfl rfl (fun c23 => ?_) (fun c23 => ?_)
        · exact J41 _
        · refine z_s I (s_iload_n (pc' := 32) 2 rfl D_Cb_share_1.1.1.1.1 rfl rfl) ?_
          refine z_b1 (fun r26 q25 => ?_)
          refine z_callS (pc' := 35) I mv_Cb_isAnswer ml_Cb_99 (fun ad => [vI x2]) ⟨Nat.le_of_ble_eq_true rfl, Nat.le_of_ble_eq_true rfl⟩ (fun hh => c_Cb_isAnswer hw ax2 hh q25) rfl rfl (Nat.le_of_ble_eq_true rfl) D_Cb_share_1.1.1.1.2 rfl (fun f24 => ?_)
          refine z_if_ne (tgt := 41) (pc' := 38) I (b01.R f24) D_Cb_share_1.1.1.2.1 rfl rfl (fun c27 => ?_) (fun c27 => ?_)
          · exact J41 _
          · refine z_s I (s_bipush (pc' := 40) D_Cb_share_1.1.1.2.2 rfl rfl) ?_
            exact z_ret (w := some (vI (-2))) I (fun g => gk0 _ _ g (inR_c (x := (-2)) rfl)) ⟨_, rfl⟩ D_Cb_share_1.1.2.1.1 rfl
      · refine z_s I (s_iconst (pc' := 25) D_Cb_share_0.2.1.2.2 rfl) ?_
        exact z_ret (w := some (vI (-1))) I (fun g => gk0 _ _ g (inR_c (x := (-1)) rfl)) ⟨_, rfl⟩ D_Cb_share_0.2.2.1.1 rfl
  exact main _ hF (by rw [hG0])
set_option maxHeartbeats 4000000 in
set_option maxRecDepth 20000 in
theorem c_Exam_worth {l : Launch} {τ : TP} {o : Int} {x1 : Int} {x2 : Int} {h : HP} {r : Int} (hw : wf τ) (ao : ok τ (4, 1) o) (ax1 : inR x1) (ax2 : inR x2) (hh : hr τ h) (hF : m_Exam_worth o x1 x2 h = some r) : Ctr l y_Exam_worth k_Exam_worth 3 (Option.some FieldType.int) 0 0 τ (fun ad => [vR ad o, vI x1, vI x2]) h (some (vI r)) h (inR r) := by
  refine ctr_of (by decide) hw hh (fun ad => Nat.le_of_ble_eq_true rfl) (fun ad K Y I hK => ?_)
  obtain ⟨G0, hG0⟩ : ∃ G : Int → Prop, G = fun x => x = r := ⟨_, rfl⟩
  have gk0 : ∀ (x : Int), G0 x → inR x → K (some (vI x)) h := fun x g q => by
    rw [hG0] at g
    cases g
    exact hK q
  have main : Z Y (m_Exam_worth o x1 x2 h) G0 h 0 [(0, vR ad o), (1, vI x1), (2, vI x2)] [] := by
    unfold m_Exam_worth
    refine z_s I (s_iload_n (pc' := 1) 2 rfl D_Exam_worth_0.1.1.1.1 rfl rfl) ?_
    refine z_s I (s_aload_n (pc' := 2) 0 rfl D_Exam_worth_0.1.1.1.2 rfl rfl) ?_
    refine z_getR (pc' := 5) (eI := o + 1) I g_Exam_24 ao rfl (by omega) D_Exam_worth_0.1.1.2.1 rfl ?_
    have k1 : ok τ (0, 8) (o + 1) := r_Exam_key hw ao (by omega)
    refine z_s I (s_iload_n (pc' := 6) 1 rfl D_Exam_worth_0.1.1.2.2 rfl rfl) ?_
    refine z_iald (pc' := 7) (nI := 8) I k1 ax1 rfl D_Exam_worth_0.1.2.1.1 rfl (fun c2 f3 => ?_)
    refine z_icmp_ne (tgt := 19) (pc' := 10) I ax2 f3 D_Exam_worth_0.1.2.1.2 rfl rfl (fun c4 => ?_) (fun c4 => ?_)
    · refine z_s I (s_aload_n (pc' := 20) 0 rfl D_Exam_worth_0.2.1.2.2 rfl rfl) ?_
      refine z_getR (pc' := 23) (eI := o + 23) I g_Exam_45 ao rfl (by omega) D_Exam_worth_0.2.2.1.1 rfl ?_
      have k5 : ok τ (0, 6) (o + 23) := r_Exam_used hw ao (by omega)
      refine z_s I (s_iconst (pc' := 24) D_Exam_worth_0.2.2.1.2 rfl) ?_
      refine z_g (c := 0 ≤ (5 : Int) ∧ (5 : Int) < 6) (by decide) ?_
      refine z_iald (pc' := 25) (nI := 6) I k5 (inR_c (x := 5) rfl) rfl D_Exam_worth_0.2.2.2.1 rfl (fun c6 f7 => ?_)
      exact z_ret (w := some (vI (h (o + 23) 5))) I (fun g => gk0 _ g f7) ⟨_, rfl⟩ D_Exam_worth_0.2.2.2.2 rfl
    · refine z_s I (s_aload_n (pc' := 11) 0 rfl D_Exam_worth_0.1.2.2.1 rfl rfl) ?_
      refine z_getR (pc' := 14) (eI := o + 23) I g_Exam_45 ao rfl (by omega) D_Exam_worth_0.1.2.2.2 rfl ?_
      have k8 : ok τ (0, 6) (o + 23) := r_Exam_used hw ao (by omega)
      refine z_s I (s_iconst (pc' := 15) D_Exam_worth_0.2.1.1.1 rfl) ?_
      refine z_g (c := 0 ≤ (4 : Int) ∧ (4 : Int) < 6) (by decide) ?_
      refine z_iald (pc' := 16) (nI := 6) I k8 (inR_c (x := 4) rfl) rfl D_Exam_worth_0.2.1.1.2 rfl (fun c9 f10 => ?_)
      refine z_s I (s_goto (tgt := 25) D_Exam_worth_0.2.1.2.1 rfl) ?_
      exact z_ret (w := some (vI (h (o + 23) 4))) I (fun g => gk0 _ g f10) ⟨_, rfl⟩ D_Exam_worth_0.2.2.2.2 rfl
  exact main _ hF (by rw [hG0])
set_option maxHeartbeats 4000000 in
set_option maxRecDepth 20000 in
theorem c_Exam_likenessAt {l : Launch} {τ : TP} {o : Int} {x1 : Int} {x2 : Int} {x3 : Int} {h : HP} {r : Int} (hw : wf τ) (ao : ok τ (4, 1) o) (ax1 : inR x1) (ax2 : inR x2) (ax3 : inR x3) (hh : hr τ h) (hF : m_Exam_likenessAt o x1 x2 x3 h = some r) : Ctr l y_Exam_likenessAt k_Exam_likenessAt 5 (Option.some FieldType.int) 1 22 τ (fun ad => [vR ad o, vI x1, vI x2, vI x3]) h (some (vI r)) h (inR r) := by
  refine ctr_of (by decide) hw hh (fun ad => Nat.le_of_ble_eq_true rfl) (fun ad K Y I hK => ?_)
  obtain ⟨G0, hG0⟩ : ∃ G : Int → Prop, G = fun x => x = r := ⟨_, rfl⟩
  have gk0 : ∀ (x : Int), G0 x → inR x → K (some (vI x)) h := fun x g q => by
    rw [hG0] at g
    cases g
    exact hK q
  have main : Z Y (m_Exam_likenessAt o x1 x2 x3 h) G0 h 0 [(0, vR ad o), (1, vI x1), (2, vI x2), (3, vI x3)] [] := by
    unfold m_Exam_likenessAt
    refine z_s I (s_aload_n (pc' := 1) 0 rfl D_Exam_likenessAt_0.1.1.1.1 rfl rfl) ?_
    refine z_getR (pc' := 4) (eI := o + 12) I g_Exam_36 ao rfl (by omega) D_Exam_likenessAt_0.1.1.1.2 rfl ?_
    have k1 : ok τ (3, 1) (o + 12) := r_Exam_given hw ao (by omega)
    refine z_s I (s_iload_n (pc' := 5) 2 rfl D_Exam_likenessAt_0.1.1.2.1 rfl rfl) ?_
    refine z_aald (pc' := 6) (eI := o + x2 + 13) I 8 1 1 k1 ax2 rfl rfl rfl (by omega) D_Exam_likenessAt_0.1.1.2.2 rfl (fun c2 => ?_)
    have k3 : ok τ (0, 8) (o + x2 + 13) := e_1 hw k1 c2 (by omega)
    refine z_s I (s_iload_n (pc' := 7) 1 rfl D_Exam_likenessAt_0.1.2.1.1 rfl rfl) ?_
    refine z_iald (pc' := 8) (nI := 8) I k3 ax1 rfl D_Exam_likenessAt_0.1.2.1.2 rfl (fun c4 f5 => ?_)
    refine z_bI f5 (fun v6 e7 f8 => ?_)
    refine z_s I (s_istore (pc' := 10) (lv' := [(4, vI v6), (0, vR ad o), (1, vI x1), (2, vI x2), (3, vI x3)]) D_Exam_likenessAt_0.1.2.2.1 (by decide) rfl rfl) ?_
    refine z_s I (s_iload (pc' := 12) 0 rfl D_Exam_likenessAt_0.1.2.2.2 rfl) ?_
    refine z_if_lt (tgt := 38) (pc' := 15) I f8 D_Exam_likenessAt_0.2.1.1.1 rfl rfl (fun c9 => ?_) (fun c9 => ?_)
    · refine z_s I (s_iconst (pc' := 39) D_Exam_likenessAt_1.2.2.1 rfl) ?_
      exact z_ret (w := some (vI 0)) I (fun g => gk0 _ g (b01.R bz0)) ⟨_, rfl⟩ D_Exam_likenessAt_1.2.2.2 rfl
    · refine z_s I (s_iload (pc' := 17) 0 rfl D_Exam_likenessAt_0.2.1.1.2 rfl) ?_
      refine z_s I (s_aload_n (pc' := 18) 1 rfl D_Exam_likenessAt_0.2.1.2.1 rfl rfl) ?_
      refine z_getR (pc' := 21) (eI := o + 12) I g_Exam_36 ao rfl (by omega) D_Exam_likenessAt_0.2.1.2.2 rfl ?_
      have k10 : ok τ (3, 1) (o + 12) := r_Exam_given hw ao (by omega)
      refine z_s I (s_iload_n (pc' := 22) 4 rfl D_Exam_likenessAt_0.2.2.1.1 rfl rfl) ?_
      refine z_aald (pc' := 23) (eI := o + x3 + 13) I 8 1 1 k10 ax3 rfl rfl rfl (by omega) D_Exam_likenessAt_0.2.2.1.2 rfl (fun c11 => ?_)
      have k12 : ok τ (0, 8) (o + x3 + 13) := e_1 hw k10 c11 (by omega)
      refine z_s I (s_iload_n (pc' := 24) 2 rfl D_Exam_likenessAt_0.2.2.2.1 rfl rfl) ?_
      refine z_iald (pc' := 25) (nI := 8) I k12 ax1 rfl D_Exam_likenessAt_0.2.2.2.2 rfl (fun c13 f14 => ?_)
      refine z_icmp_ne (tgt := 38) (pc' := 28) I f8 f14 D_Exam_likenessAt_1.1.1.1 rfl rfl (fun c15 => ?_) (fun c15 => ?_)
      · refine z_s I (s_iconst (pc' := 39) D_Exam_likenessAt_1.2.2.1 rfl) ?_
        exact z_ret (w := some (vI 0)) I (fun g => gk0 _ g (b01.R bz0)) ⟨_, rfl⟩ D_Exam_likenessAt_1.2.2.2 rfl
      · refine z_s I (s_aload_n (pc' := 29) 1 rfl D_Exam_likenessAt_1.1.1.2 rfl rfl) ?_
        refine z_s I (s_iload_n (pc' := 30) 2 rfl D_Exam_likenessAt_1.1.2.1 rfl rfl) ?_
        refine z_s I (s_iload (pc' := 32) 0 rfl D_Exam_likenessAt_1.1.2.2 rfl) ?_
        refine z_b1 (fun r18 q17 => ?_)
        refine z_callV (pc' := 35) I mv_Exam_worth ml_Exam_95 (fun ad => [vI x1, vI v6]) ⟨Nat.le_of_ble_eq_true rfl, Nat.le_of_ble_eq_true rfl⟩ ao (fun hh => c_Exam_worth hw ao ax1 f8 hh q17) rfl rfl (Nat.le_of_ble_eq_true rfl) D_Exam_likenessAt_1.2.1.1 rfl (fun f16 => ?_)
        refine z_s I (s_goto (tgt := 39) D_Exam_likenessAt_1.2.1.2 rfl) ?_
        exact z_ret (w := some (vI r18)) I (fun g => gk0 _ g f16) ⟨_, rfl⟩ D_Exam_likenessAt_1.2.2.2 rfl
  exact main _ hF (by rw [hG0])
set_option maxHeartbeats 4000000 in
set_option maxRecDepth 20000 in
theorem c_Exam_likeness {l : Launch} {τ : TP} {o : Int} {x1 : Int} {x2 : Int} {h : HP} {r : Int} (hw : wf τ) (ao : ok τ (4, 1) o) (ax1 : inR x1) (ax2 : inR x2) (hh : hr τ h) (hF : m_Exam_likeness o x1 x2 h = some r) : Ctr l y_Exam_likeness k_Exam_likeness 5 (Option.some FieldType.int) 2 46 τ (fun ad => [vR ad o, vI x1, vI x2]) h (some (vI r)) h (inR r) := by
  refine ctr_of (by decide) hw hh (fun ad => Nat.le_of_ble_eq_true rfl) (fun ad K Y I hK => ?_)
  obtain ⟨G0, hG0⟩ : ∃ G : Int → Prop, G = fun x => x = r := ⟨_, rfl⟩
  have gk0 : ∀ (x : Int), G0 x → inR x → K (some (vI x)) h := fun x g q => by
    rw [hG0] at g
    cases g
    exact hK q
  have L5 : ∀ (s : Int × Int), (inR (s.1) ∧ inR (s.2)) → Z Y (m_Exam_likeness_L5 o x1 x2 h s) G0 h 5 [(0, vR ad o), (1, vI x1), (2, vI x2), (3, vI (s.1)), (4, vI (s.2))] [] := by
    intro s hs
    refine z_loop (G := G0) (hO := fun s : Int × Int => h) (lO := fun s : Int × Int => [(0, vR ad o), (1, vI x1), (2, vI x2), (3, vI (s.1)), (4, vI (s.2))]) (Φ := fun s : Int × Int => inR (s.1) ∧ inR (s.2)) (fun G1 hin1_1 hout1 s hs => ?_) FUEL s hs
    obtain ⟨x3, x4⟩ := s
    obtain ⟨ax3, ax4⟩ := hs
    have gk1 := fun (x : Int) (g : G1 (.inr (x))) (q : inR x) => gk0 x (hout1 _ g) q
    show Z Y (m_Exam_likeness_L5b o x1 x2 h x3 x4) G1 h 5 [(0, vR ad o), (1, vI x1), (2, vI x2), (3, vI x3), (4, vI x4)] []
    unfold m_Exam_likeness_L5b
    refine z_s I (s_iload (pc' := 7) 4 rfl D_Exam_likeness_0.1.2.1.1 rfl) ?_
    refine z_s I (s_aload_n (pc' := 8) 0 rfl D_Exam_likeness_0.1.2.1.2 rfl rfl) ?_
    refine z_getI (pc' := 11) (jI := 0) I g_Exam_9 ao rfl rfl D_Exam_likeness_0.1.2.2.1 rfl (fun f1 => ?_)
    refine z_icmp_ge (tgt := 31) (pc' := 14) I ax4 f1 D_Exam_likeness_0.1.2.2.2 rfl rfl (fun c2 => ?_) (fun c2 => ?_)
    · refine z_s I (s_iload_n (pc' := 32) 3 rfl D_Exam_likeness_1.2.1 rfl rfl) ?_
      exact z_ret (w := some (vI x3)) I (fun g => gk1 _ g ax3) ⟨_, rfl⟩ D_Exam_likeness_1.2.2 rfl
    · refine z_s I (s_iload_n (pc' := 15) 3 rfl D_Exam_likeness_0.2.1.1.1 rfl rfl) ?_
      refine z_s I (s_aload_n (pc' := 16) 0 rfl D_Exam_likeness_0.2.1.1.2 rfl rfl) ?_
      refine z_s I (s_iload (pc' := 18) 4 rfl D_Exam_likeness_0.2.1.2.1 rfl) ?_
      refine z_s I (s_iload_n (pc' := 19) 1 rfl D_Exam_likeness_0.2.1.2.2 rfl rfl) ?_
      refine z_s I (s_iload_n (pc' := 20) 2 rfl D_Exam_likeness_0.2.2.1.1 rfl rfl) ?_
      refine z_b1 (fun r5 q4 => ?_)
      refine z_callV (pc' := 23) I mv_Exam_likenessAt ml_Exam_98 (fun ad => [vI x4, vI x1, vI x2]) ⟨Nat.le_of_ble_eq_true rfl, Nat.le_of_ble_eq_true rfl⟩ ao (fun hh => c_Exam_likenessAt hw ao ax4 ax1 ax2 hh q4) rfl rfl (Nat.le_of_ble_eq_true rfl) D_Exam_likeness_0.2.2.1.2 rfl (fun f3 => ?_)
      refine z_s I (s_iadd (pc' := 24) D_Exam_likeness_0.2.2.2.1 rfl) ?_
      refine z_bI (inR_w32 _) (fun v6 e7 f8 => ?_)
      refine z_s I (s_istore_n (pc' := 25) (lv' := [(3, vI v6), (0, vR ad o), (1, vI x1), (2, vI x2), (4, vI x4)]) D_Exam_likeness_0.2.2.2.2 rfl (by decide) rfl rfl) ?_
      refine z_s I (s_iinc (pc' := 28) (lv' := [(4, vI (w32 (x4 + 1))), (3, vI v6), (0, vR ad o), (1, vI x1), (2, vI x2)]) (n := 4) rfl D_Exam_likeness_1.1.1 (by decide) rfl rfl) ?_
      refine z_s I (s_goto (tgt := 5) D_Exam_likeness_1.1.2 rfl) ?_
      refine z_s I (s_lv (lv' := [(0, vR ad o), (1, vI x1), (2, vI x2), (3, vI v6), (4, vI (w32 (x4 + 1)))]) [2, 3, 4, 1, 0] rfl) ?_
      exact z_end (fun g => hin1_1 _ g ⟨f8, (inR_w32 _)⟩)
  have main : Z Y (m_Exam_likeness o x1 x2 h) G0 h 0 [(0, vR ad o), (1, vI x1), (2, vI x2)] [] := by
    unfold m_Exam_likeness
    refine z_s I (s_iconst (pc' := 1) D_Exam_likeness_0.1.1.1.1 rfl) ?_
    refine z_s I (s_istore_n (pc' := 2) (lv' := [(3, vI 0), (0, vR ad o), (1, vI x1), (2, vI x2)]) D_Exam_likeness_0.1.1.1.2 rfl (by decide) rfl rfl) ?_
    refine z_s I (s_iconst (pc' := 3) D_Exam_likeness_0.1.1.2.1 rfl) ?_
    refine z_s I (s_istore (pc' := 5) (lv' := [(4, vI 0), (3, vI 0), (0, vR ad o), (1, vI x1), (2, vI x2)]) D_Exam_likeness_0.1.1.2.2 (by decide) rfl rfl) ?_
    refine z_s I (s_lv (lv' := [(0, vR ad o), (1, vI x1), (2, vI x2), (3, vI 0), (4, vI 0)]) [2, 3, 4, 1, 0] rfl) ?_
    exact L5 _ ⟨(b01.R bz0), (b01.R bz0)⟩
  exact main _ hF (by rw [hG0])
