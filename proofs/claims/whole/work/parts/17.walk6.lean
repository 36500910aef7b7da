set_option maxHeartbeats 4000000 in
set_option maxRecDepth 20000 in
theorem c_Md_chance {l : Launch} {τ : TP} {o : Int} {x1 : Int} {x2 : Int} {x3 : Int} {x4 : Int} {x5 : Int} {h : HP} {r : Int} {h' : HP} (hw : wf τ) (ao : ok τ (4, 10) o) (ax1 : inR x1) (ax2 : inR x2) (ax3 : inR x3) (ax4 : inR x4) (ax5 : inR x5) (hh : hr τ h) (hF : m_Md_chance o x1 x2 x3 x4 x5 h = some (r, h')) : Ctr l y_Md_chance k_Md_chance 8 (Option.some FieldType.long) 5 128 τ (fun ad => [vR ad o, vI x1, vI x2, vI x3, vI x4, vI x5]) h (some (vL r)) h' (inL r) := by
  refine ctr_of (by decide) hw hh (fun ad => Nat.le_of_ble_eq_true rfl) (fun ad K Y I hK => ?_)
  obtain ⟨G0, hG0⟩ : ∃ G : Int × HP → Prop, G = fun x => x = (r, h') := ⟨_, rfl⟩
  have gk0 : ∀ (x : Int) (y : HP), G0 (x, y) → inL x → K (some (vL x)) y := fun x y g q => by
    rw [hG0] at g
    cases g
    exact hK q
  have J73 : ∀ (x6 : Int) (ax6 : inR x6) (h : HP), Z Y (m_Md_chance_J73 x5 x6 h) G0 h 73 [(5, vI x5), (6, vI x6)] [] := by
    intro x6 ax6 h
    unfold m_Md_chance_J73
    refine z_s I (s_iload (pc' := 75) 1 rfl D_Md_chance_2.2.1.2.1 rfl) ?_
    refine z_s I (s_i2l (pc' := 76) ax6 D_Md_chance_2.2.1.2.2 rfl) ?_
    refine z_ldc2 (pc' := 79) (x := 6) I cl_Md_367 (by decide +kernel) D_Md_chance_2.2.2.1.1 rfl ?_
    refine z_s I (s_iload (pc' := 81) 0 rfl D_Md_chance_2.2.2.1.2 rfl) ?_
    refine z_b1 (fun r3 q2 => ?_)
    refine z_callS (pc' := 84) I mv_Md_lowest ml_Md_265 (fun ad => [vL x6, vL 6, vI x5]) ⟨Nat.le_of_ble_eq_true rfl, Nat.le_of_ble_eq_true rfl⟩ (fun hh => c_Md_lowest hw (ax6).L (inL_c (x := 6) rfl) ax5 hh q2) rfl rfl (Nat.le_of_ble_eq_true rfl) D_Md_chance_2.2.2.2.1 rfl (fun f1 => ?_)
    exact z_ret (w := some (vL r3)) I (fun g => gk0 _ _ g f1) ⟨_, rfl⟩ D_Md_chance_2.2.2.2.2 rfl
  have L35 : ∀ (s : Int × Int × HP), (inR (s.1) ∧ inR (s.2.1)) → Z Y (m_Md_chance_L35 o x1 x2 x3 x4 x5 s) G0 (s.2.2) 35 [(0, vR ad o), (1, vI x1), (2, vI x2), (3, vI x3), (4, vI x4), (5, vI x5), (6, vI (s.1)), (7, vI (s.2.1))] [] := by
    intro s hs
    refine z_loop (G := G0) (hO := fun s : Int × Int × HP => s.2.2) (lO := fun s : Int × Int × HP => [(0, vR ad o), (1, vI x1), (2, vI x2), (3, vI x3), (4, vI x4), (5, vI x5), (6, vI (s.1)), (7, vI (s.2.1))]) (Φ := fun s : Int × Int × HP => inR (s.1) ∧ inR (s.2.1)) (fun G1 hin1_1 hout1 s hs => ?_) FUEL s hs
    obtain ⟨x6, x7, h⟩ := s
    obtain ⟨ax6, ax7⟩ := hs
    have gk1 := fun (x : Int) (y : HP) (g : G1 (.inr ((x, y)))) (q : inL x) => gk0 x y (hout1 _ g) q
    show Z Y (m_Md_chance_L35b o x1 x2 x3 x4 x5 x6 x7 h) G1 h 35 [(0, vR ad o), (1, vI x1), (2, vI x2), (3, vI x3), (4, vI x4), (5, vI x5), (6, vI x6), (7, vI x7)] []
    unfold m_Md_chance_L35b
    refine z_s I (s_iload (pc' := 37) 7 rfl D_Md_chance_1.1.1.2.2 rfl) ?_
    refine z_s I (s_bipush (pc' := 39) D_Md_chance_1.1.2.1.1 rfl rfl) ?_
    refine z_icmp_ge (tgt := 73) (pc' := 42) I ax7 (inR_c (x := 6) rfl) D_Md_chance_1.1.2.1.2 rfl rfl (fun c4 => ?_) (fun c4 => ?_)
    · refine z_map _ (fun x g => hout1 x g) ?_
      refine z_s I (s_lv (lv' := [(5, vI x5), (6, vI x6)]) [5, 6] rfl) ?_
      exact J73 _ ax6 _
    · refine z_s I (s_iload (pc' := 44) 6 rfl D_Md_chance_1.1.2.2.1 rfl) ?_
      refine z_s I (s_aload_n (pc' := 45) 0 rfl D_Md_chance_1.1.2.2.2 rfl rfl) ?_
      refine z_s I (s_iload_n (pc' := 46) 1 rfl D_Md_chance_1.2.1.1.1 rfl rfl) ?_
      refine z_s I (s_iload (pc' := 48) 7 rfl D_Md_chance_1.2.1.1.2 rfl) ?_
      refine z_s I (s_iadd (pc' := 49) D_Md_chance_1.2.1.2.1 rfl) ?_
      refine z_s I (s_iload_n (pc' := 50) 2 rfl D_Md_chance_1.2.1.2.2 rfl rfl) ?_
      refine z_s I (s_iload_n (pc' := 51) 3 rfl D_Md_chance_1.2.2.1.1 rfl rfl) ?_
      refine z_b2 (fun r7 h8 q6 => ?_)
      refine z_callV (pc' := 54) I mv_Md_drawnBy ml_Md_364 (fun ad => [vI (w32 (x1 + x7)), vI x2, vI x3]) ⟨Nat.le_of_ble_eq_true rfl, Nat.le_of_ble_eq_true rfl⟩ ao (fun hh => c_Md_drawnBy hw ao (inR_w32 _) ax2 ax3 hh q6) rfl rfl (Nat.le_of_ble_eq_true rfl) D_Md_chance_1.2.2.1.2 rfl (fun f5 => ?_)
      refine z_s I (s_iload (pc' := 56) 4 rfl D_Md_chance_1.2.2.2.1 rfl) ?_
      refine z_icmp_lt (tgt := 63) (pc' := 59) I f5 ax4 D_Md_chance_1.2.2.2.2 rfl rfl (fun c9 => ?_) (fun c9 => ?_)
      · refine z_s I (s_iconst (pc' := 64) D_Md_chance_2.1.1.2.2 rfl) ?_
        refine z_s I (s_iadd (pc' := 65) D_Md_chance_2.1.2.1 rfl) ?_
        refine z_bI (inR_w32 _) (fun v10 e11 f12 => ?_)
        refine z_s I (s_istore (pc' := 67) (lv' := [(6, vI v10), (0, vR ad o), (1, vI x1), (2, vI x2), (3, vI x3), (4, vI x4), (5, vI x5), (7, vI x7)]) D_Md_chance_2.1.2.2.1 (by decide) rfl rfl) ?_
        refine z_s I (s_iinc (pc' := 70) (lv' := [(7, vI (w32 (x7 + 1))), (6, vI v10), (0, vR ad o), (1, vI x1), (2, vI x2), (3, vI x3), (4, vI x4), (5, vI x5)]) (n := 7) rfl D_Md_chance_2.1.2.2.2 (by decide) rfl rfl) ?_
        refine z_s I (s_goto (tgt := 35) D_Md_chance_2.2.1.1 rfl) ?_
        refine z_s I (s_lv (lv' := [(0, vR ad o), (1, vI x1), (2, vI x2), (3, vI x3), (4, vI x4), (5, vI x5), (6, vI v10), (7, vI (w32 (x7 + 1)))]) [2, 3, 4, 5, 6, 7, 1, 0] rfl) ?_
        exact z_end (fun g => hin1_1 _ g ⟨f12, (inR_w32 _)⟩)
      · refine z_s I (s_iconst (pc' := 60) D_Md_chance_2.1.1.1 rfl) ?_
        refine z_s I (s_goto (tgt := 64) D_Md_chance_2.1.1.2.1 rfl) ?_
        refine z_s I (s_iadd (pc' := 65) D_Md_chance_2.1.2.1 rfl) ?_
        refine z_bI (inR_w32 _) (fun v13 e14 f15 => ?_)
        refine z_s I (s_istore (pc' := 67) (lv' := [(6, vI v13), (0, vR ad o), (1, vI x1), (2, vI x2), (3, vI x3), (4, vI x4), (5, vI x5), (7, vI x7)]) D_Md_chance_2.1.2.2.1 (by decide) rfl rfl) ?_
        refine z_s I (s_iinc (pc' := 70) (lv' := [(7, vI (w32 (x7 + 1))), (6, vI v13), (0, vR ad o), (1, vI x1), (2, vI x2), (3, vI x3), (4, vI x4), (5, vI x5)]) (n := 7) rfl D_Md_chance_2.1.2.2.2 (by decide) rfl rfl) ?_
        refine z_s I (s_goto (tgt := 35) D_Md_chance_2.2.1.1 rfl) ?_
        refine z_s I (s_lv (lv' := [(0, vR ad o), (1, vI x1), (2, vI x2), (3, vI x3), (4, vI x4), (5, vI x5), (6, vI v13), (7, vI (w32 (x7 + 1)))]) [2, 3, 4, 5, 6, 7, 1, 0] rfl) ?_
        exact z_end (fun g => hin1_1 _ g ⟨f15, (inR_w32 _)⟩)
  have main : Z Y (m_Md_chance o x1 x2 x3 x4 x5 h) G0 h 0 [(0, vR ad o), (1, vI x1), (2, vI x2), (3, vI x3), (4, vI x4), (5, vI x5)] [] := by
    unfold m_Md_chance
    refine z_s I (s_aload_n (pc' := 1) 0 rfl D_Md_chance_0.1.1.1.1 rfl rfl) ?_
    refine z_s I (s_iload_n (pc' := 2) 2 rfl D_Md_chance_0.1.1.1.2 rfl rfl) ?_
    refine z_s I (s_iload_n (pc' := 3) 3 rfl D_Md_chance_0.1.1.2.1 rfl rfl) ?_
    refine z_b1 (fun r18 q17 => ?_)
    refine z_callV (pc' := 6) I mv_Md_isTwo ml_Md_230 (fun ad => [vI x2, vI x3]) ⟨Nat.le_of_ble_eq_true rfl, Nat.le_of_ble_eq_true rfl⟩ ao (fun hh => c_Md_isTwo hw ao ax2 ax3 hh q17) rfl rfl (Nat.le_of_ble_eq_true rfl) D_Md_chance_0.1.1.2.2 rfl (fun f16 => ?_)
    refine z_if_eq (tgt := 25) (pc' := 9) I (b01.R f16) D_Md_chance_0.1.2.1.1 rfl rfl (fun c19 => ?_) (fun c19 => ?_)
    · refine z_ldc2 (pc' := 28) (x := (-9223372036854775808)) I cl_Md_259 (by decide +kernel) D_Md_chance_0.2.2.1.2 rfl ?_
      exact z_ret (w := some (vL (-9223372036854775808))) I (fun g => gk0 _ _ g (inL_c (x := (-9223372036854775808)) rfl)) ⟨_, rfl⟩ D_Md_chance_0.2.2.2.1 rfl
    · refine z_s I (s_iload (pc' := 11) 4 rfl D_Md_chance_0.1.2.1.2 rfl) ?_
      refine z_if_lt (tgt := 25) (pc' := 14) I ax4 D_Md_chance_0.1.2.2.1 rfl rfl (fun c20 => ?_) (fun c20 => ?_)
      · refine z_ldc2 (pc' := 28) (x := (-9223372036854775808)) I cl_Md_259 (by decide +kernel) D_Md_chance_0.2.2.1.2 rfl ?_
        exact z_ret (w := some (vL (-9223372036854775808))) I (fun g => gk0 _ _ g (inL_c (x := (-9223372036854775808)) rfl)) ⟨_, rfl⟩ D_Md_chance_0.2.2.2.1 rfl
      · refine z_s I (s_iload (pc' := 16) 5 rfl D_Md_chance_0.1.2.2.2 rfl) ?_
        refine z_s I (s_i2l (pc' := 17) ax5 D_Md_chance_0.2.1.1.1 rfl) ?_
        refine z_s I (s_lconst (pc' := 18) (x := 0) D_Md_chance_0.2.1.1.2 rfl rfl) ?_
        refine z_s I (s_lconst (pc' := 19) (x := 1) D_Md_chance_0.2.1.2.1 rfl rfl) ?_
        refine z_b1 (fun r23 q22 => ?_)
        refine z_callS (pc' := 22) I mv_Md_in ml_Md_119 (fun ad => [vL x5, vL 0, vL 1]) ⟨Nat.le_of_ble_eq_true rfl, Nat.le_of_ble_eq_true rfl⟩ (fun hh => c_Md_in hw (ax5).L (inL_c (x := 0) rfl) (inL_c (x := 1) rfl) hh q22) rfl rfl (Nat.le_of_ble_eq_true rfl) D_Md_chance_0.2.1.2.2 rfl (fun f21 => ?_)
        refine z_if_ne (tgt := 29) (pc' := 25) I (b01.R f21) D_Md_chance_0.2.2.1.1 rfl rfl (fun c24 => ?_) (fun c24 => ?_)
        · refine z_s I (s_iconst (pc' := 30) D_Md_chance_0.2.2.2.2 rfl) ?_
          refine z_s I (s_istore (pc' := 32) (lv' := [(6, vI 0), (0, vR ad o), (1, vI x1), (2, vI x2), (3, vI x3), (4, vI x4), (5, vI x5)]) D_Md_chance_1.1.1.1.1 (by decide) rfl rfl) ?_
          refine z_s I (s_iconst (pc' := 33) D_Md_chance_1.1.1.1.2 rfl) ?_
          refine z_s I (s_istore (pc' := 35) (lv' := [(7, vI 0), (6, vI 0), (0, vR ad o), (1, vI x1), (2, vI x2), (3, vI x3), (4, vI x4), (5, vI x5)]) D_Md_chance_1.1.1.2.1 (by decide) rfl rfl) ?_
          refine z_s I (s_lv (lv' := [(0, vR ad o), (1, vI x1), (2, vI x2), (3, vI x3), (4, vI x4), (5, vI x5), (6, vI 0), (7, vI 0)]) [2, 3, 4, 5, 6, 7, 1, 0] rfl) ?_
          exact L35 _ ⟨(b01.R bz0), (b01.R bz0)⟩
        · refine z_ldc2 (pc' := 28) (x := (-9223372036854775808)) I cl_Md_259 (by decide +kernel) D_Md_chance_0.2.2.1.2 rfl ?_
          exact z_ret (w := some (vL (-9223372036854775808))) I (fun g => gk0 _ _ g (inL_c (x := (-9223372036854775808)) rfl)) ⟨_, rfl⟩ D_Md_chance_0.2.2.2.1 rfl
  exact main _ hF (by rw [hG0])
set_option maxHeartbeats 4000000 in
set_option maxRecDepth 20000 in
theorem c_Md_see {l : Launch} {τ : TP} {o : Int} {x1 : Int} {x2 : Int} {x3 : Int} {h : HP} {r : Int} {h' : HP} (hw : wf τ) (ao : ok τ (4, 10) o) (ax1 : inR x1) (ax2 : inR x2) (ax3 : b01 x3) (hh : hr τ h) (hF : m_Md_see o x1 x2 x3 h = some (r, h')) : Ctr l y_Md_see k_Md_see 4 (Option.some FieldType.int) 3 68 τ (fun ad => [vR ad o, vI x1, vI x2, vI x3]) h (some (vI r)) h' (inR r) := by
  refine ctr_of (by decide) hw hh (fun ad => Nat.le_of_ble_eq_true rfl) (fun ad K Y I hK => ?_)
  obtain ⟨G0, hG0⟩ : ∃ G : Int × HP → Prop, G = fun x => x = (r, h') := ⟨_, rfl⟩
  have gk0 : ∀ (x : Int) (y : HP), G0 (x, y) → inR x → K (some (vI x)) y := fun x y g q => by
    rw [hG0] at g
    cases g
    exact hK q
  have J71 : ∀ (s0 : Int) (as0 : ok τ (0, 5) s0) (s1 : Int) (as1 : inR s1) (s2 : Int) (as2 : b01 s2) (h : HP), Z Y (m_Md_see_J71 o s0 s1 s2 h) G0 h 71 [(0, vR ad o)] [vI s2, vI s1, vR ad s0] := by
    intro s0 as0 s1 as1 s2 as2 h
    unfold m_Md_see_J71
    refine z_iast (pc' := 72) (nI := 5) I as0 as1 (b01.R as2) rfl D_Md_see_2.2.1.2.1 rfl (fun c1 => ?_)
    refine z_bH (fun h2 e3 => ?_)
    refine z_s I (s_aload_n (pc' := 73) 0 rfl D_Md_see_2.2.1.2.2 rfl rfl) ?_
    refine z_s I (s_dup (pc' := 74) rfl D_Md_see_2.2.2.1.1 rfl) ?_
    refine z_getI (pc' := 77) (jI := 15) I g_Md_130 ao rfl rfl D_Md_see_2.2.2.1.2 rfl (fun f4 => ?_)
    refine z_s I (s_iconst (pc' := 78) D_Md_see_2.2.2.2.1 rfl) ?_
    refine z_s I (s_iadd (pc' := 79) D_Md_see_2.2.2.2.2 rfl) ?_
    refine z_putI (pc' := 82) (jI := 15) I p_Md_130 ao rfl rfl (inR_w32 _) D_Md_see_3.1.1 rfl ?_
    refine z_bH (fun h5 e6 => ?_)
    refine z_s I (s_aload_n (pc' := 83) 0 rfl D_Md_see_3.1.2 rfl rfl) ?_
    refine z_getI (pc' := 86) (jI := 15) I g_Md_130 ao rfl rfl D_Md_see_3.2.1 rfl (fun f7 => ?_)
    exact z_ret (w := some (vI (h5 o 15))) I (fun g => gk0 _ _ g f7) ⟨_, rfl⟩ D_Md_see_3.2.2 rfl
  have main : Z Y (m_Md_see o x1 x2 x3 h) G0 h 0 [(0, vR ad o), (1, vI x1), (2, vI x2), (3, vI x3)] [] := by
    unfold m_Md_see
    refine z_s I (s_iload_n (pc' := 1) 1 rfl D_Md_see_0.1.1.1.1 rfl rfl) ?_
    refine z_s I (s_iconst (pc' := 2) D_Md_see_0.1.1.1.2 rfl) ?_
    refine z_icmp_ne (tgt := 12) (pc' := 5) I ax1 (inR_c (x := (-1)) rfl) D_Md_see_0.1.1.2.1 rfl rfl (fun c8 => ?_) (fun c8 => ?_)
    · refine z_s I (s_aload_n (pc' := 13) 0 rfl D_Md_see_0.2.1.1.1 rfl rfl) ?_
      refine z_s I (s_iload_n (pc' := 14) 1 rfl D_Md_see_0.2.1.1.2 rfl rfl) ?_
      refine z_s I (s_iload_n (pc' := 15) 2 rfl D_Md_see_0.2.1.2.1 rfl rfl) ?_
      refine z_b1 (fun r11 q10 => ?_)
      refine z_callV (pc' := 18) I mv_Md_isTwo ml_Md_230 (fun ad => [vI x1, vI x2]) ⟨Nat.le_of_ble_eq_true rfl, Nat.le_of_ble_eq_true rfl⟩ ao (fun hh => c_Md_isTwo hw ao ax1 ax2 hh q10) rfl rfl (Nat.le_of_ble_eq_true rfl) D_Md_see_0.2.1.2.2 rfl (fun f9 => ?_)
      refine z_if_ne (tgt := 23) (pc' := 21) I (b01.R f9) D_Md_see_0.2.2.1.1 rfl rfl (fun c12 => ?_) (fun c12 => ?_)
      · refine z_s I (s_aload_n (pc' := 24) 0 rfl D_Md_see_0.2.2.2.2 rfl rfl) ?_
        refine z_getI (pc' := 27) (jI := 15) I g_Md_130 ao rfl rfl D_Md_see_1.1.1.1.1 rfl (fun f13 => ?_)
        refine z_s I (s_iconst (pc' := 28) D_Md_see_1.1.1.1.2 rfl) ?_
        refine z_icmp_ne (tgt := 34) (pc' := 31) I f13 (inR_c (x := 5) rfl) D_Md_see_1.1.1.2.1 rfl rfl (fun c14 => ?_) (fun c14 => ?_)
        · refine z_s I (s_aload_n (pc' := 35) 0 rfl D_Md_see_1.1.2.1.2 rfl rfl) ?_
          refine z_getR (pc' := 38) (eI := o + 8) I g_Md_37 ao rfl (by omega) D_Md_see_1.1.2.2.1 rfl ?_
          have k15 : ok τ (0, 5) (o + 8) := r_Md_seenX hw ao (by omega)
          refine z_s I (s_aload_n (pc' := 39) 0 rfl D_Md_see_1.1.2.2.2 rfl rfl) ?_
          refine z_getI (pc' := 42) (jI := 15) I g_Md_130 ao rfl rfl D_Md_see_1.2.1.1.1 rfl (fun f16 => ?_)
          refine z_s I (s_iload_n (pc' := 43) 1 rfl D_Md_see_1.2.1.1.2 rfl rfl) ?_
          refine z_iast (pc' := 44) (nI := 5) I k15 f16 ax1 rfl D_Md_see_1.2.1.2.1 rfl (fun c17 => ?_)
          refine z_bH (fun h18 e19 => ?_)
          refine z_s I (s_aload_n (pc' := 45) 0 rfl D_Md_see_1.2.1.2.2 rfl rfl) ?_
          refine z_getR (pc' := 48) (eI := o + 9) I g_Md_40 ao rfl (by omega) D_Md_see_1.2.2.1.1 rfl ?_
          have k20 : ok τ (0, 5) (o + 9) := r_Md_seenY hw ao (by omega)
          refine z_s I (s_aload_n (pc' := 49) 0 rfl D_Md_see_1.2.2.1.2 rfl rfl) ?_
          refine z_getI (pc' := 52) (jI := 15) I g_Md_130 ao rfl rfl D_Md_see_1.2.2.2.1 rfl (fun f21 => ?_)
          refine z_s I (s_iload_n (pc' := 53) 2 rfl D_Md_see_1.2.2.2.2 rfl rfl) ?_
          refine z_iast (pc' := 54) (nI := 5) I k20 f21 ax2 rfl D_Md_see_2.1.1.1.1 rfl (fun c22 => ?_)
          refine z_bH (fun h23 e24 => ?_)
          refine z_s I (s_aload_n (pc' := 55) 0 rfl D_Md_see_2.1.1.1.2 rfl rfl) ?_
          refine z_getR (pc' := 58) (eI := o + 10) I g_Md_43 ao rfl (by omega) D_Md_see_2.1.1.2.1 rfl ?_
          have k25 : ok τ (0, 5) (o + 10) := r_Md_seenIs hw ao (by omega)
          refine z_s I (s_aload_n (pc' := 59) 0 rfl D_Md_see_2.1.1.2.2 rfl rfl) ?_
          refine z_getI (pc' := 62) (jI := 15) I g_Md_130 ao rfl rfl D_Md_see_2.1.2.1.1 rfl (fun f26 => ?_)
          refine z_s I (s_iload_n (pc' := 63) 3 rfl D_Md_see_2.1.2.1.2 rfl rfl) ?_
          refine z_if_eq (tgt := 70) (pc' := 66) I (b01.R ax3) D_Md_see_2.1.2.2.1 rfl rfl (fun c27 => ?_) (fun c27 => ?_)
          · refine z_s I (s_iconst (pc' := 71) D_Md_see_2.2.1.1.2 rfl) ?_
            refine z_s I (s_lv (lv' := [(0, vR ad o)]) [0] rfl) ?_
            exact J71 _ k25 _ f26 _ bz0 _
          · refine z_s I (s_iconst (pc' := 67) D_Md_see_2.1.2.2.2 rfl) ?_
            refine z_s I (s_goto (tgt := 71) D_Md_see_2.2.1.1.1 rfl) ?_
            refine z_s I (s_lv (lv' := [(0, vR ad o)]) [0] rfl) ?_
            exact J71 _ k25 _ f26 _ bz1 _
        · refine z_s I (s_bipush (pc' := 33) D_Md_see_1.1.1.2.2 rfl rfl) ?_
          exact z_ret (w := some (vI (-4))) I (fun g => gk0 _ _ g (inR_c (x := (-4)) rfl)) ⟨_, rfl⟩ D_Md_see_1.1.2.1.1 rfl
      · refine z_s I (s_iconst (pc' := 22) D_Md_see_0.2.2.1.2 rfl) ?_
        exact z_ret (w := some (vI (-1))) I (fun g => gk0 _ _ g (inR_c (x := (-1)) rfl)) ⟨_, rfl⟩ D_Md_see_0.2.2.2.1 rfl
    · refine z_s I (s_aload_n (pc' := 6) 0 rfl D_Md_see_0.1.1.2.2 rfl rfl) ?_
      refine z_s I (s_iconst (pc' := 7) D_Md_see_0.1.2.1.1 rfl) ?_
      refine z_putI (pc' := 10) (jI := 15) I p_Md_130 ao rfl rfl (b01.R bz0) D_Md_see_0.1.2.1.2 rfl ?_
      refine z_bH (fun h28 e29 => ?_)
      refine z_s I (s_iconst (pc' := 11) D_Md_see_0.1.2.2.1 rfl) ?_
      exact z_ret (w := some (vI 0)) I (fun g => gk0 _ _ g (b01.R bz0)) ⟨_, rfl⟩ D_Md_see_0.1.2.2.2 rfl
  exact main _ hF (by rw [hG0])
set_option maxHeartbeats 4000000 in
set_option maxRecDepth 20000 in
theorem c_Md_isAllSeen {l : Launch} {τ : TP} {o : Int} {h : HP} {r : Int} {h' : HP} (hw : wf τ) (ao : ok τ (4, 10) o) (hh : hr τ h) (hF : m_Md_isAllSeen o h = some (r, h')) : Ctr l y_Md_isAllSeen k_Md_isAllSeen 3 (Option.some FieldType.boolean) 8 218 τ (fun ad => [vR ad o]) h (some (vI r)) h' (b01 r) := by
  refine ctr_of (by decide) hw hh (fun ad => Nat.le_of_ble_eq_true rfl) (fun ad K Y I hK => ?_)
  obtain ⟨G0, hG0⟩ : ∃ G : Int × HP → Prop, G = fun x => x = (r, h') := ⟨_, rfl⟩
  have gk0 : ∀ (x : Int) (y : HP), G0 (x, y) → b01 x → K (some (vI x)) y := fun x y g q => by
    rw [hG0] at g
    cases g
    exact hK q
  have L6 : ∀ (h : HP) (s : Int), (inR s) → Z Y (m_Md_isAllSeen_L6 o h s) G0 h 6 [(0, vR ad o), (1, vI s)] [] := by
    intro h s hs
    refine z_loop (G := G0) (hO := fun s : Int => h) (lO := fun s : Int => [(0, vR ad o), (1, vI s)]) (Φ := fun s : Int => inR s) (fun G1 hin1_1 hout1 s hs => ?_) FUEL s hs
    obtain ⟨x1, rfl⟩ : ∃ z, z = s := ⟨_, rfl⟩
    have ax1 := hs
    have gk1 := fun (x : Int) (y : HP) (g : G1 (.inr ((x, y)))) (q : b01 x) => gk0 x y (hout1 _ g) q
    have J64 : ∀ (x1 : Int) (ax1 : inR x1) (s0 : Int) (as0 : b01 s0) (s1 : Int) (as1 : b01 s1), Z Y (m_Md_isAllSeen_J64 o x1 s0 s1 h) G1 h 64 [(0, vR ad o), (1, vI x1)] [vI s1, vI s0] := by
      intro x1 ax1 s0 as0 s1 as1
      unfold m_Md_isAllSeen_J64
      refine z_icmp_eq (tgt := 69) (pc' := 67) I (b01.R as0) (b01.R as1) D_Md_isAllSeen_2.2.1.1 rfl rfl (fun c1 => ?_) (fun c1 => ?_)
      · refine z_s I (s_iinc (pc' := 72) (lv' := [(1, vI (w32 (x1 + 1))), (0, vR ad o)]) (n := 1) rfl D_Md_isAllSeen_2.2.2.1.1 (by decide) rfl rfl) ?_
        refine z_s I (s_goto (tgt := 6) D_Md_isAllSeen_2.2.2.1.2 rfl) ?_
        refine z_s I (s_lv (lv' := [(0, vR ad o), (1, vI (w32 (x1 + 1)))]) [1, 0] rfl) ?_
        exact z_end (fun g => hin1_1 _ g (inR_w32 _))
      · refine z_s I (s_iconst (pc' := 68) D_Md_isAllSeen_2.2.1.2.1 rfl) ?_
        exact z_ret (w := some (vI 0)) I (fun g => gk1 _ _ g bz0) ⟨_, bz0, rfl⟩ D_Md_isAllSeen_2.2.1.2.2 rfl
    have J49 : ∀ (x1 : Int) (ax1 : inR x1) (s0 : Int) (as0 : b01 s0), Z Y (m_Md_isAllSeen_J49 o x1 s0 h) G1 h 49 [(0, vR ad o), (1, vI x1)] [vI s0] := by
      intro x1 ax1 s0 as0
      unfold m_Md_isAllSeen_J49
      refine z_s I (s_aload_n (pc' := 50) 0 rfl D_Md_isAllSeen_1.2.2.1.2 rfl rfl) ?_
      refine z_getR (pc' := 53) (eI := o + 10) I g_Md_43 ao rfl (by omega) D_Md_isAllSeen_1.2.2.2.1 rfl ?_
      have k2 : ok τ (0, 5) (o + 10) := r_Md_seenIs hw ao (by omega)
      refine z_s I (s_iload_n (pc' := 54) 1 rfl D_Md_isAllSeen_1.2.2.2.2 rfl rfl) ?_
      refine z_iald (pc' := 55) (nI := 5) I k2 ax1 rfl D_Md_isAllSeen_2.1.1.1 rfl (fun c3 f4 => ?_)
      refine z_s I (s_iconst (pc' := 56) D_Md_isAllSeen_2.1.1.2.1 rfl) ?_
      refine z_icmp_ne (tgt := 63) (pc' := 59) I f4 (b01.R bz1) D_Md_isAllSeen_2.1.1.2.2 rfl rfl (fun c5 => ?_) (fun c5 => ?_)
      · refine z_s I (s_iconst (pc' := 64) D_Md_isAllSeen_2.1.2.2.2 rfl) ?_
        exact J64 _ ax1 _ as0 _ bz0
      · refine z_s I (s_iconst (pc' := 60) D_Md_isAllSeen_2.1.2.1 rfl) ?_
        refine z_s I (s_goto (tgt := 64) D_Md_isAllSeen_2.1.2.2.1 rfl) ?_
        exact J64 _ ax1 _ as0 _ bz1
    have J48 : ∀ (x1 : Int) (ax1 : inR x1), Z Y (m_Md_isAllSeen_J48 o x1 h) G1 h 48 [(0, vR ad o), (1, vI x1)] [] := by
      intro x1 ax1
      unfold m_Md_isAllSeen_J48
      refine z_s I (s_iconst (pc' := 49) D_Md_isAllSeen_1.2.2.1.1 rfl) ?_
      exact J49 _ ax1 _ bz0
    show Z Y (m_Md_isAllSeen_L6b o h x1) G1 h 6 [(0, vR ad o), (1, vI x1)] []
    unfold m_Md_isAllSeen_L6b
    refine z_s I (s_iload_n (pc' := 7) 1 rfl D_Md_isAllSeen_0.1.2.1.1 rfl rfl) ?_
    refine z_s I (s_aload_n (pc' := 8) 0 rfl D_Md_isAllSeen_0.1.2.1.2 rfl rfl) ?_
    refine z_getI (pc' := 11) (jI := 15) I g_Md_130 ao rfl rfl D_Md_isAllSeen_0.1.2.2.1 rfl (fun f6 => ?_)
    refine z_icmp_ge (tgt := 75) (pc' := 14) I ax1 f6 D_Md_isAllSeen_0.1.2.2.2 rfl rfl (fun c7 => ?_) (fun c7 => ?_)
    · refine z_s I (s_iconst (pc' := 76) D_Md_isAllSeen_2.2.2.2.1 rfl) ?_
      exact z_ret (w := some (vI 1)) I (fun g => gk1 _ _ g bz1) ⟨_, bz1, rfl⟩ D_Md_isAllSeen_2.2.2.2.2 rfl
    · refine z_s I (s_aload_n (pc' := 15) 0 rfl D_Md_isAllSeen_0.2.1.1.1 rfl rfl) ?_
      refine z_s I (s_aload_n (pc' := 16) 0 rfl D_Md_isAllSeen_0.2.1.1.2 rfl rfl) ?_
      refine z_getR (pc' := 19) (eI := o + 8) I g_Md_37 ao rfl (by omega) D_Md_isAllSeen_0.2.1.2.1 rfl ?_
      have k8 : ok τ (0, 5) (o + 8) := r_Md_seenX hw ao (by omega)
      refine z_s I (s_iload_n (pc' := 20) 1 rfl D_Md_isAllSeen_0.2.1.2.2 rfl rfl) ?_
      refine z_iald (pc' := 21) (nI := 5) I k8 ax1 rfl D_Md_isAllSeen_0.2.2.1.1 rfl (fun c9 f10 => ?_)
      refine z_s I (s_aload_n (pc' := 22) 0 rfl D_Md_isAllSeen_0.2.2.1.2 rfl rfl) ?_
      refine z_getR (pc' := 25) (eI := o + 9) I g_Md_40 ao rfl (by omega) D_Md_isAllSeen_0.2.2.2.1 rfl ?_
      have k11 : ok τ (0, 5) (o + 9) := r_Md_seenY hw ao (by omega)
      refine z_s I (s_iload_n (pc' := 26) 1 rfl D_Md_isAllSeen_0.2.2.2.2 rfl rfl) ?_
      refine z_iald (pc' := 27) (nI := 5) I k11 ax1 rfl D_Md_isAllSeen_1.1.1.1.1 rfl (fun c12 f13 => ?_)
      refine z_b1 (fun r16 q15 => ?_)
      refine z_callV (pc' := 30) I mv_Md_ranked ml_Md_335 (fun ad => [vI (h (o + 8) x1), vI (h (o + 9) x1)]) ⟨Nat.le_of_ble_eq_true rfl, Nat.le_of_ble_eq_true rfl⟩ ao (fun hh => c_Md_ranked hw ao f10 f13 hh q15) rfl rfl (Nat.le_of_ble_eq_true rfl) D_Md_isAllSeen_1.1.1.1.2 rfl (fun f14 => ?_)
      refine z_s I (s_istore_n (pc' := 31) (lv' := [(2, vI r16), (0, vR ad o), (1, vI x1)]) D_Md_isAllSeen_1.1.1.2.1 rfl (by decide) rfl rfl) ?_
      refine z_s I (s_iload_n (pc' := 32) 0 rfl D_Md_isAllSeen_1.1.1.2.2 rfl rfl) ?_
      refine z_if_lt (tgt := 48) (pc' := 35) I f14 D_Md_isAllSeen_1.1.2.1.1 rfl rfl (fun c17 => ?_) (fun c17 => ?_)
      · refine z_s I (s_lv (lv' := [(0, vR ad o), (1, vI x1)]) [1, 2] rfl) ?_
        exact J48 _ ax1
      · refine z_s I (s_aload_n (pc' := 36) 1 rfl D_Md_isAllSeen_1.1.2.1.2 rfl rfl) ?_
        refine z_getR (pc' := 39) (eI := o + 22) I g_Md_80 ao rfl (by omega) D_Md_isAllSeen_1.1.2.2.1 rfl ?_
        have k18 : ok τ (2, 28) (o + 22) := r_Md_isSuspect hw ao (by omega)
        refine z_s I (s_iload_n (pc' := 40) 0 rfl D_Md_isAllSeen_1.1.2.2.2 rfl rfl) ?_
        refine z_bald (pc' := 41) (nI := 28) I k18 f14 rfl D_Md_isAllSeen_1.2.1.1.1 rfl (fun c19 f20 => ?_)
        refine z_if_eq (tgt := 48) (pc' := 44) I (b01.R f20) D_Md_isAllSeen_1.2.1.1.2 rfl rfl (fun c21 => ?_) (fun c21 => ?_)
        · refine z_s I (s_lv (lv' := [(0, vR ad o), (1, vI x1)]) [1, 2] rfl) ?_
          exact J48 _ ax1
        · refine z_s I (s_iconst (pc' := 45) D_Md_isAllSeen_1.2.1.2.1 rfl) ?_
          refine z_s I (s_goto (tgt := 49) D_Md_isAllSeen_1.2.1.2.2 rfl) ?_
          refine z_s I (s_lv (lv' := [(0, vR ad o), (1, vI x1)]) [1, 2] rfl) ?_
          exact J49 _ ax1 _ bz1
  have main : Z Y (m_Md_isAllSeen o h) G0 h 0 [(0, vR ad o)] [] := by
    unfold m_Md_isAllSeen
    refine z_s I (s_aload_n (pc' := 1) 0 rfl D_Md_isAllSeen_0.1.1.1.1 rfl rfl) ?_
    refine z_b1 (fun h24 q23 => ?_)
    refine z_callV (pc' := 4) I mv_Md_orders ml_Md_300 (fun ad => []) ⟨Nat.le_of_ble_eq_true rfl, Nat.le_of_ble_eq_true rfl⟩ ao (fun hh => c_Md_orders hw ao hh q23) rfl rfl (Nat.le_of_ble_eq_true rfl) D_Md_isAllSeen_0.1.1.1.2 rfl (fun f22 => ?_)
    refine z_s I (s_iconst (pc' := 5) D_Md_isAllSeen_0.1.1.2.1 rfl) ?_
    refine z_s I (s_istore_n (pc' := 6) (lv' := [(1, vI 0), (0, vR ad o)]) D_Md_isAllSeen_0.1.1.2.2 rfl (by decide) rfl rfl) ?_
    refine z_s I (s_lv (lv' := [(0, vR ad o), (1, vI 0)]) [1, 0] rfl) ?_
    exact L6 _ _ (b01.R bz0)
  exact main _ hF (by rw [hG0])
set_option maxHeartbeats 4000000 in
set_option maxRecDepth 20000 in
theorem c_Md_fits {l : Launch} {τ : TP} {o : Int} {x1 : Int} {h : HP} {r : Int} {h' : HP} (hw : wf τ) (ao : ok τ (4, 10) o) (ax1 : inR x1) (hh : hr τ h) (hF : m_Md_fits o x1 h = some (r, h')) : Ctr l y_Md_fits k_Md_fits 6 (Option.some FieldType.int) 9 240 τ (fun ad => [vR ad o, vI x1]) h (some (vI r)) h' (inR r) := by
  refine ctr_of (by decide) hw hh (fun ad => Nat.le_of_ble_eq_true rfl) (fun ad K Y I hK => ?_)
  obtain ⟨G0, hG0⟩ : ∃ G : Int × HP → Prop, G = fun x => x = (r, h') := ⟨_, rfl⟩
  have gk0 : ∀ (x : Int) (y : HP), G0 (x, y) → inR x → K (some (vI x)) y := fun x y g q => by
    rw [hG0] at g
    cases g
    exact hK q
  have J61 : ∀ (x2 : Int) (ax2 : inR x2) (x3 : Int) (ax3 : inR x3) (x4 : Int) (ax4 : inR x4) (h : HP), Z Y (m_Md_fits_J61 o x1 x2 x3 x4 h) G0 h 61 [(0, vR ad o), (1, vI x1), (2, vI x2), (3, vI x3), (4, vI x4)] [] := by
    intro x2 ax2 x3 ax3 x4 ax4 h
    unfold m_Md_fits_J61
    refine z_s I (s_aload_n (pc' := 62) 0 rfl D_Md_fits_2.1.1.2.2 rfl rfl) ?_
    refine z_getR (pc' := 65) (eI := o + 7) I g_Md_34 ao rfl (by omega) D_Md_fits_2.1.2.1 rfl ?_
    have k1 : ok τ (0, 6) (o + 7) := r_Md_used hw ao (by omega)
    refine z_s I (s_iconst (pc' := 66) D_Md_fits_2.1.2.2.1 rfl) ?_
    refine z_s I (s_iload_n (pc' := 67) 2 rfl D_Md_fits_2.1.2.2.2 rfl rfl) ?_
    refine z_g (c := 0 ≤ (0 : Int) ∧ (0 : Int) < 6) (by decide) ?_
    refine z_iast (pc' := 68) (nI := 6) I k1 (b01.R bz0) ax2 rfl D_Md_fits_2.2.1.1 rfl (fun c2 => ?_)
    refine z_bH (fun h3 e4 => ?_)
    refine z_s I (s_iload_n (pc' := 69) 1 rfl D_Md_fits_2.2.1.2.1 rfl rfl) ?_
    refine z_if_ne (tgt := 76) (pc' := 72) I ax1 D_Md_fits_2.2.1.2.2 rfl rfl (fun c5 => ?_) (fun c5 => ?_)
    · refine z_s I (s_iload (pc' := 78) 4 rfl D_Md_fits_2.2.2.2.1 rfl) ?_
      exact z_ret (w := some (vI x4)) I (fun g => gk0 _ _ g ax4) ⟨_, rfl⟩ D_Md_fits_2.2.2.2.2 rfl
    · refine z_s I (s_iload_n (pc' := 73) 3 rfl D_Md_fits_2.2.2.1.1 rfl rfl) ?_
      refine z_s I (s_goto (tgt := 78) D_Md_fits_2.2.2.1.2 rfl) ?_
      exact z_ret (w := some (vI x3)) I (fun g => gk0 _ _ g ax3) ⟨_, rfl⟩ D_Md_fits_2.2.2.2.2 rfl
  have L28 : ∀ (x2 : Int) (ax2 : inR x2) (s : Int × Int × Int × HP), (inR (s.1) ∧ inR (s.2.1) ∧ inR (s.2.2.1)) → Z Y (m_Md_fits_L28 o x1 x2 s) G0 (s.2.2.2) 28 [(0, vR ad o), (1, vI x1), (2, vI x2), (3, vI (s.1)), (4, vI (s.2.1)), (5, vI (s.2.2.1))] [] := by
    intro x2 ax2 s hs
    refine z_loop (G := G0) (hO := fun s : Int × Int × Int × HP => s.2.2.2) (lO := fun s : Int × Int × Int × HP => [(0, vR ad o), (1, vI x1), (2, vI x2), (3, vI (s.1)), (4, vI (s.2.1)), (5, vI (s.2.2.1))]) (Φ := fun s : Int × Int × Int × HP => inR (s.1) ∧ inR (s.2.1) ∧ inR (s.2.2.1)) (fun G1 hin1_1 hout1 s hs => ?_) FUEL s hs
    obtain ⟨x3, x4, x5, h⟩ := s
    obtain ⟨ax3, ax4, ax5⟩ := hs
    have gk1 := fun (x : Int) (y : HP) (g : G1 (.inr ((x, y)))) (q : inR x) => gk0 x y (hout1 _ g) q
    show Z Y (m_Md_fits_L28b o x1 x2 x3 x4 x5 h) G1 h 28 [(0, vR ad o), (1, vI x1), (2, vI x2), (3, vI x3), (4, vI x4), (5, vI x5)] []
    unfold m_Md_fits_L28b
    refine z_s I (s_iload (pc' := 30) 5 rfl D_Md_fits_1.1.1.2.2 rfl) ?_
    refine z_if_lt (tgt := 61) (pc' := 33) I ax5 D_Md_fits_1.1.2.1.1 rfl rfl (fun c6 => ?_) (fun c6 => ?_)
    · refine z_map _ (fun x g => hout1 x g) ?_
      refine z_s I (s_lv (lv' := [(0, vR ad o), (1, vI x1), (2, vI x2), (3, vI x3), (4, vI x4)]) [0, 1, 2, 3, 4] rfl) ?_
      exact J61 _ ax2 _ ax3 _ ax4 _
    · refine z_s I (s_aload_n (pc' := 34) 0 rfl D_Md_fits_1.1.2.1.2 rfl rfl) ?_
      refine z_getR (pc' := 37) (eI := o + 7) I g_Md_34 ao rfl (by omega) D_Md_fits_1.1.2.2.1 rfl ?_
      have k7 : ok τ (0, 6) (o + 7) := r_Md_used hw ao (by omega)
      refine z_s I (s_iconst (pc' := 38) D_Md_fits_1.1.2.2.2 rfl) ?_
      refine z_s I (s_iload (pc' := 40) 5 rfl D_Md_fits_1.2.1.1.1 rfl) ?_
      refine z_g (c := 0 ≤ (0 : Int) ∧ (0 : Int) < 6) (by decide) ?_
      refine z_iast (pc' := 41) (nI := 6) I k7 (b01.R bz0) ax5 rfl D_Md_fits_1.2.1.1.2 rfl (fun c8 => ?_)
      refine z_bH (fun h9 e10 => ?_)
      refine z_s I (s_aload_n (pc' := 42) 0 rfl D_Md_fits_1.2.1.2.1 rfl rfl) ?_
      refine z_b2 (fun r13 h14 q12 => ?_)
      refine z_callV (pc' := 45) I mv_Md_isAllSeen ml_Md_369 (fun ad => []) ⟨Nat.le_of_ble_eq_true rfl, Nat.le_of_ble_eq_true rfl⟩ ao (fun hh => c_Md_isAllSeen hw ao hh q12) rfl rfl (Nat.le_of_ble_eq_true rfl) D_Md_fits_1.2.1.2.2 rfl (fun f11 => ?_)
      refine z_if_eq (tgt := 55) (pc' := 48) I (b01.R f11) D_Md_fits_1.2.2.1.1 rfl rfl (fun c15 => ?_) (fun c15 => ?_)
      · refine z_s I (s_iinc (pc' := 58) (lv' := [(5, vI (w32 (x5 + (-1)))), (0, vR ad o), (1, vI x1), (2, vI x2), (3, vI x3), (4, vI x4)]) (n := 5) rfl D_Md_fits_2.1.1.1 (by decide) rfl rfl) ?_
        refine z_s I (s_goto (tgt := 28) D_Md_fits_2.1.1.2.1 rfl) ?_
        refine z_s I (s_lv (lv' := [(0, vR ad o), (1, vI x1), (2, vI x2), (3, vI x3), (4, vI x4), (5, vI (w32 (x5 + (-1))))]) [1, 2, 3, 4, 5, 0] rfl) ?_
        exact z_end (fun g => hin1_1 _ g ⟨ax3, ax4, (inR_w32 _)⟩)
      · refine z_s I (s_iinc (pc' := 51) (lv' := [(3, vI (w32 (x3 + 1))), (0, vR ad o), (1, vI x1), (2, vI x2), (4, vI x4), (5, vI x5)]) (n := 3) rfl D_Md_fits_1.2.2.1.2 (by decide) rfl rfl) ?_
        refine z_s I (s_iload (pc' := 53) 5 rfl D_Md_fits_1.2.2.2.1 rfl) ?_
        refine z_s I (s_istore (pc' := 55) (lv' := [(4, vI x5), (3, vI (w32 (x3 + 1))), (0, vR ad o), (1, vI x1), (2, vI x2), (5, vI x5)]) D_Md_fits_1.2.2.2.2 (by decide) rfl rfl) ?_
        refine z_s I (s_iinc (pc' := 58) (lv' := [(5, vI (w32 (x5 + (-1)))), (4, vI x5), (3, vI (w32 (x3 + 1))), (0, vR ad o), (1, vI x1), (2, vI x2)]) (n := 5) rfl D_Md_fits_2.1.1.1 (by decide) rfl rfl) ?_
        refine z_s I (s_goto (tgt := 28) D_Md_fits_2.1.1.2.1 rfl) ?_
        refine z_s I (s_lv (lv' := [(0, vR ad o), (1, vI x1), (2, vI x2), (3, vI (w32 (x3 + 1))), (4, vI x5), (5, vI (w32 (x5 + (-1))))]) [3, 4, 5, 2, 1, 0] rfl) ?_
        exact z_end (fun g => hin1_1 _ g ⟨(inR_w32 _), ax5, (inR_w32 _)⟩)
  have main : Z Y (m_Md_fits o x1 h) G0 h 0 [(0, vR ad o), (1, vI x1)] [] := by
    unfold m_Md_fits
    refine z_s I (s_iload_n (pc' := 1) 1 rfl D_Md_fits_0.1.1.1.1 rfl rfl) ?_
    refine z_s I (s_i2l (pc' := 2) ax1 D_Md_fits_0.1.1.1.2 rfl) ?_
    refine z_s I (s_lconst (pc' := 3) (x := 0) D_Md_fits_0.1.1.2.1 rfl rfl) ?_
    refine z_s I (s_lconst (pc' := 4) (x := 1) D_Md_fits_0.1.1.2.2 rfl rfl) ?_
    refine z_b1 (fun r18 q17 => ?_)
    refine z_callS (pc' := 7) I mv_Md_in ml_Md_119 (fun ad => [vL x1, vL 0, vL 1]) ⟨Nat.le_of_ble_eq_true rfl, Nat.le_of_ble_eq_true rfl⟩ (fun hh => c_Md_in hw (ax1).L (inL_c (x := 0) rfl) (inL_c (x := 1) rfl) hh q17) rfl rfl (Nat.le_of_ble_eq_true rfl) D_Md_fits_0.1.2.1.1 rfl (fun f16 => ?_)
    refine z_if_ne (tgt := 12) (pc' := 10) I (b01.R f16) D_Md_fits_0.1.2.1.2 rfl rfl (fun c19 => ?_) (fun c19 => ?_)
    · refine z_s I (s_aload_n (pc' := 13) 0 rfl D_Md_fits_0.2.1.1.1 rfl rfl) ?_
      refine z_getR (pc' := 16) (eI := o + 7) I g_Md_34 ao rfl (by omega) D_Md_fits_0.2.1.1.2 rfl ?_
      have k20 : ok τ (0, 6) (o + 7) := r_Md_used hw ao (by omega)
      refine z_s I (s_iconst (pc' := 17) D_Md_fits_0.2.1.2.1 rfl) ?_
      refine z_g (c := 0 ≤ (0 : Int) ∧ (0 : Int) < 6) (by decide) ?_
      refine z_iald (pc' := 18) (nI := 6) I k20 (b01.R bz0) rfl D_Md_fits_0.2.1.2.2 rfl (fun c21 f22 => ?_)
      refine z_bI f22 (fun v23 e24 f25 => ?_)
      refine z_s I (s_istore_n (pc' := 19) (lv' := [(2, vI v23), (0, vR ad o), (1, vI x1)]) D_Md_fits_0.2.2.1.1 rfl (by decide) rfl rfl) ?_
      refine z_s I (s_iconst (pc' := 20) D_Md_fits_0.2.2.1.2 rfl) ?_
      refine z_s I (s_istore_n (pc' := 21) (lv' := [(3, vI 0), (2, vI v23), (0, vR ad o), (1, vI x1)]) D_Md_fits_0.2.2.2.1 rfl (by decide) rfl rfl) ?_
      refine z_s I (s_bipush (pc' := 23) D_Md_fits_0.2.2.2.2 rfl rfl) ?_
      refine z_s I (s_istore (pc' := 25) (lv' := [(4, vI (-5)), (3, vI 0), (2, vI v23), (0, vR ad o), (1, vI x1)]) D_Md_fits_1.1.1.1.1 (by decide) rfl rfl) ?_
      refine z_s I (s_iconst (pc' := 26) D_Md_fits_1.1.1.1.2 rfl) ?_
      refine z_s I (s_istore (pc' := 28) (lv' := [(5, vI 3), (4, vI (-5)), (3, vI 0), (2, vI v23), (0, vR ad o), (1, vI x1)]) D_Md_fits_1.1.1.2.1 (by decide) rfl rfl) ?_
      refine z_s I (s_lv (lv' := [(0, vR ad o), (1, vI x1), (2, vI v23), (3, vI 0), (4, vI (-5)), (5, vI 3)]) [4, 5, 3, 2, 1, 0] rfl) ?_
      exact L28 _ f25 _ ⟨(b01.R bz0), (inR_c (x := (-5)) rfl), (inR_c (x := 3) rfl)⟩
    · refine z_s I (s_iconst (pc' := 11) D_Md_fits_0.1.2.2.1 rfl) ?_
      exact z_ret (w := some (vI (-1))) I (fun g => gk0 _ _ g (inR_c (x := (-1)) rfl)) ⟨_, rfl⟩ D_Md_fits_0.1.2.2.2 rfl
  exact main _ hF (by rw [hG0])
set_option maxHeartbeats 4000000 in
set_option maxRecDepth 20000 in
theorem c_Md_mean {l : Launch} {τ : TP} {o : Int} {x1 : Int} {h : HP} {r : Int} {h' : HP} (hw : wf τ) (ao : ok τ (4, 10) o) (ax1 : inR x1) (hh : hr τ h) (hF : m_Md_mean o x1 h = some (r, h')) : Ctr l y_Md_mean k_Md_mean 5 (Option.some FieldType.long) 8 218 τ (fun ad => [vR ad o, vI x1]) h (some (vL r)) h' (inL r) := by
  refine ctr_of (by decide) hw hh (fun ad => Nat.le_of_ble_eq_true rfl) (fun ad K Y I hK => ?_)
  obtain ⟨G0, hG0⟩ : ∃ G : Int × HP → Prop, G = fun x => x = (r, h') := ⟨_, rfl⟩
  have gk0 : ∀ (x : Int) (y : HP), G0 (x, y) → inL x → K (some (vL x)) y := fun x y g q => by
    rw [hG0] at g
    cases g
    exact hK q
  have J68 : ∀ (l2 : Int) (al2 : inL l2) (h : HP), Z Y (m_Md_mean_J68 o x1 l2 h) G0 h 68 [(0, vR ad o), (1, vI x1), (2, vL l2)] [] := by
    intro l2 al2 h
    unfold m_Md_mean_J68
    refine z_s I (s_lload_n (pc' := 69) 2 rfl D_Md_mean_2.2.1.1 rfl rfl) ?_
    refine z_s I (s_aload_n (pc' := 70) 0 rfl D_Md_mean_2.2.1.2.1 rfl rfl) ?_
    refine z_getI (pc' := 73) (jI := 29) I g_Md_280 ao rfl rfl D_Md_mean_2.2.1.2.2 rfl (fun f1 => ?_)
    refine z_s I (s_i2l (pc' := 74) f1 D_Md_mean_2.2.2.1.1 rfl) ?_
    refine z_s I (s_iload_n (pc' := 75) 1 rfl D_Md_mean_2.2.2.1.2 rfl rfl) ?_
    refine z_b1 (fun r4 q3 => ?_)
    refine z_callS (pc' := 78) I mv_Md_lowest ml_Md_265 (fun ad => [vL l2, vL (h o 29), vI x1]) ⟨Nat.le_of_ble_eq_true rfl, Nat.le_of_ble_eq_true rfl⟩ (fun hh => c_Md_lowest hw al2 (f1).L ax1 hh q3) rfl rfl (Nat.le_of_ble_eq_true rfl) D_Md_mean_2.2.2.2.1 rfl (fun f2 => ?_)
    exact z_ret (w := some (vL r4)) I (fun g => gk0 _ _ g f2) ⟨_, rfl⟩ D_Md_mean_2.2.2.2.2 rfl
  have L30 : ∀ (h : HP) (s : Int × Int), (inL (s.1) ∧ inR (s.2)) → Z Y (m_Md_mean_L30 o x1 h s) G0 h 30 [(0, vR ad o), (1, vI x1), (2, vL (s.1)), (4, vI (s.2))] [] := by
    intro h s hs
    refine z_loop (G := G0) (hO := fun s : Int × Int => h) (lO := fun s : Int × Int => [(0, vR ad o), (1, vI x1), (2, vL (s.1)), (4, vI (s.2))]) (Φ := fun s : Int × Int => inL (s.1) ∧ inR (s.2)) (fun G1 hin1_1 hout1 s hs => ?_) FUEL s hs
    obtain ⟨l2, x4⟩ := s
    obtain ⟨al2, ax4⟩ := hs
    have gk1 := fun (x : Int) (y : HP) (g : G1 (.inr ((x, y)))) (q : inL x) => gk0 x y (hout1 _ g) q
    show Z Y (m_Md_mean_L30b o x1 h l2 x4) G1 h 30 [(0, vR ad o), (1, vI x1), (2, vL l2), (4, vI x4)] []
    unfold m_Md_mean_L30b
    refine z_s I (s_iload (pc' := 32) 3 rfl D_Md_mean_1.1.1.1.2 rfl) ?_
    refine z_s I (s_aload_n (pc' := 33) 0 rfl D_Md_mean_1.1.1.2.1 rfl rfl) ?_
    refine z_getI (pc' := 36) (jI := 29) I g_Md_280 ao rfl rfl D_Md_mean_1.1.1.2.2 rfl (fun f5 => ?_)
    refine z_icmp_ge (tgt := 68) (pc' := 39) I ax4 f5 D_Md_mean_1.1.2.1.1 rfl rfl (fun c6 => ?_) (fun c6 => ?_)
    · refine z_map _ (fun x g => hout1 x g) ?_
      refine z_s I (s_lv (lv' := [(0, vR ad o), (1, vI x1), (2, vL l2)]) [0, 1, 2] rfl) ?_
      exact J68 _ al2 _
    · refine z_s I (s_lload_n (pc' := 40) 2 rfl D_Md_mean_1.1.2.1.2 rfl rfl) ?_
      refine z_s I (s_aload_n (pc' := 41) 0 rfl D_Md_mean_1.1.2.2.1 rfl rfl) ?_
      refine z_s I (s_aload_n (pc' := 42) 0 rfl D_Md_mean_1.1.2.2.2 rfl rfl) ?_
      refine z_getR (pc' := 45) (eI := o + 18) I g_Md_68 ao rfl (by omega) D_Md_mean_1.2.1.1.1 rfl ?_
      have k7 : ok τ (0, 28) (o + 18) := r_Md_pairX hw ao (by omega)
      refine z_s I (s_iload (pc' := 47) 3 rfl D_Md_mean_1.2.1.1.2 rfl) ?_
      refine z_iald (pc' := 48) (nI := 28) I k7 ax4 rfl D_Md_mean_1.2.1.2.1 rfl (fun c8 f9 => ?_)
      refine z_s I (s_aload_n (pc' := 49) 0 rfl D_Md_mean_1.2.1.2.2 rfl rfl) ?_
      refine z_getR (pc' := 52) (eI := o + 19) I g_Md_71 ao rfl (by omega) D_Md_mean_1.2.2.1.1 rfl ?_
      have k10 : ok τ (0, 28) (o + 19) := r_Md_pairY hw ao (by omega)
      refine z_s I (s_iload (pc' := 54) 3 rfl D_Md_mean_1.2.2.1.2 rfl) ?_
      refine z_iald (pc' := 55) (nI := 28) I k10 ax4 rfl D_Md_mean_1.2.2.2.1 rfl (fun c11 f12 => ?_)
      refine z_s I (s_iconst (pc' := 56) D_Md_mean_1.2.2.2.2 rfl) ?_
      refine z_b1 (fun r15 q14 => ?_)
      refine z_callV (pc' := 59) I mv_Md_likeness ml_Md_240 (fun ad => [vI (h (o + 18) x4), vI (h (o + 19) x4), vI (-1)]) ⟨Nat.le_of_ble_eq_true rfl, Nat.le_of_ble_eq_true rfl⟩ ao (fun hh => c_Md_likeness hw ao f9 f12 (inR_c (x := (-1)) rfl) hh q14) rfl rfl (Nat.le_of_ble_eq_true rfl) D_Md_mean_2.1.1.1 rfl (fun f13 => ?_)
      refine z_s I (s_i2l (pc' := 60) f13 D_Md_mean_2.1.1.2.1 rfl) ?_
      refine z_s I (s_ladd (pc' := 61) D_Md_mean_2.1.1.2.2 rfl) ?_
      refine z_bL (inL_w64 _) (fun v16 e17 f18 => ?_)
      refine z_s I (s_lstore_n (pc' := 62) (lv' := [(2, vL v16), (0, vR ad o), (1, vI x1), (4, vI x4)]) D_Md_mean_2.1.2.1 rfl (by decide) rfl rfl) ?_
      refine z_s I (s_iinc (pc' := 65) (lv' := [(4, vI (w32 (x4 + 1))), (2, vL v16), (0, vR ad o), (1, vI x1)]) (n := 3) rfl D_Md_mean_2.1.2.2.1 (by decide) rfl rfl) ?_
      refine z_s I (s_goto (tgt := 30) D_Md_mean_2.1.2.2.2 rfl) ?_
      refine z_s I (s_lv (lv' := [(0, vR ad o), (1, vI x1), (2, vL v16), (4, vI (w32 (x4 + 1)))]) [2, 3, 1, 0] rfl) ?_
      exact z_end (fun g => hin1_1 _ g ⟨f18, (inR_w32 _)⟩)
  have main : Z Y (m_Md_mean o x1 h) G0 h 0 [(0, vR ad o), (1, vI x1)] [] := by
    unfold m_Md_mean
    refine z_s I (s_aload_n (pc' := 1) 0 rfl D_Md_mean_0.1.1.1.1 rfl rfl) ?_
    refine z_b1 (fun h21 q20 => ?_)
    refine z_callV (pc' := 4) I mv_Md_orders ml_Md_300 (fun ad => []) ⟨Nat.le_of_ble_eq_true rfl, Nat.le_of_ble_eq_true rfl⟩ ao (fun hh => c_Md_orders hw ao hh q20) rfl rfl (Nat.le_of_ble_eq_true rfl) D_Md_mean_0.1.1.1.2 rfl (fun f19 => ?_)
    refine z_s I (s_iload_n (pc' := 5) 1 rfl D_Md_mean_0.1.1.2.1 rfl rfl) ?_
    refine z_s I (s_i2l (pc' := 6) ax1 D_Md_mean_0.1.1.2.2 rfl) ?_
    refine z_s I (s_lconst (pc' := 7) (x := 0) D_Md_mean_0.1.2.1.1 rfl rfl) ?_
    refine z_s I (s_lconst (pc' := 8) (x := 1) D_Md_mean_0.1.2.1.2 rfl rfl) ?_
    refine z_b1 (fun r24 q23 => ?_)
    refine z_callS (pc' := 11) I mv_Md_in ml_Md_119 (fun ad => [vL x1, vL 0, vL 1]) ⟨Nat.le_of_ble_eq_true rfl, Nat.le_of_ble_eq_true rfl⟩ (fun hh => c_Md_in hw (ax1).L (inL_c (x := 0) rfl) (inL_c (x := 1) rfl) hh q23) rfl rfl (Nat.le_of_ble_eq_true rfl) D_Md_mean_0.1.2.2.1 rfl (fun f22 => ?_)
    refine z_if_eq (tgt := 21) (pc' := 14) I (b01.R f22) D_Md_mean_0.1.2.2.2 rfl rfl (fun c25 => ?_) (fun c25 => ?_)
    · refine z_ldc2 (pc' := 24) (x := (-9223372036854775808)) I cl_Md_259 (by decide +kernel) D_Md_mean_0.2.1.2.2 rfl ?_
      exact z_ret (w := some (vL (-9223372036854775808))) I (fun g => gk0 _ _ g (inL_c (x := (-9223372036854775808)) rfl)) ⟨_, rfl⟩ D_Md_mean_0.2.2.1.1 rfl
    · refine z_s I (s_aload_n (pc' := 15) 0 rfl D_Md_mean_0.2.1.1.1 rfl rfl) ?_
      refine z_getI (pc' := 18) (jI := 29) I g_Md_280 ao rfl rfl D_Md_mean_0.2.1.1.2 rfl (fun f26 => ?_)
      refine z_if_ne (tgt := 25) (pc' := 21) I f26 D_Md_mean_0.2.1.2.1 rfl rfl (fun c27 => ?_) (fun c27 => ?_)
      · refine z_s I (s_lconst (pc' := 26) (x := 0) D_Md_mean_0.2.2.1.2 rfl rfl) ?_
        refine z_s I (s_lstore_n (pc' := 27) (lv' := [(2, vL 0), (0, vR ad o), (1, vI x1)]) D_Md_mean_0.2.2.2.1 rfl (by decide) rfl rfl) ?_
        refine z_s I (s_iconst (pc' := 28) D_Md_mean_0.2.2.2.2 rfl) ?_
        refine z_s I (s_istore (pc' := 30) (lv' := [(4, vI 0), (2, vL 0), (0, vR ad o), (1, vI x1)]) D_Md_mean_1.1.1.1.1 (by decide) rfl rfl) ?_
        refine z_s I (s_lv (lv' := [(0, vR ad o), (1, vI x1), (2, vL 0), (4, vI 0)]) [2, 3, 1, 0] rfl) ?_
        exact L30 _ _ ⟨(inL_c (x := 0) rfl), (b01.R bz0)⟩
      · refine z_ldc2 (pc' := 24) (x := (-9223372036854775808)) I cl_Md_259 (by decide +kernel) D_Md_mean_0.2.1.2.2 rfl ?_
        exact z_ret (w := some (vL (-9223372036854775808))) I (fun g => gk0 _ _ g (inL_c (x := (-9223372036854775808)) rfl)) ⟨_, rfl⟩ D_Md_mean_0.2.2.1.1 rfl
  exact main _ hF (by rw [hG0])
set_option maxHeartbeats 4000000 in
set_option maxRecDepth 20000 in
theorem c_Md_plan {l : Launch} {τ : TP} {o : Int} {x1 : Int} {x2 : Int} {x3 : Int} {h : HP} {r : Int} {h' : HP} (hw : wf τ) (ao : ok τ (4, 10) o) (ax1 : inR x1) (ax2 : inR x2) (ax3 : inR x3) (hh : hr τ h) (hF : m_Md_plan o x1 x2 x3 h = some (r, h')) : Ctr l y_Md_plan k_Md_plan 4 (Option.some FieldType.int) 3 68 τ (fun ad => [vR ad o, vI x1, vI x2, vI x3]) h (some (vI r)) h' (inR r) := by
  refine ctr_of (by decide) hw hh (fun ad => Nat.le_of_ble_eq_true rfl) (fun ad K Y I hK => ?_)
  obtain ⟨G0, hG0⟩ : ∃ G : Int × HP → Prop, G = fun x => x = (r, h') := ⟨_, rfl⟩
  have gk0 : ∀ (x : Int) (y : HP), G0 (x, y) → inR x → K (some (vI x)) y := fun x y g q => by
    rw [hG0] at g
    cases g
    exact hK q
  have J91 : ∀ (h : HP), Z Y (m_Md_plan_J91 o x1 x2 x3 h) G0 h 91 [(0, vR ad o), (1, vI x1), (2, vI x2), (3, vI x3)] [] := by
    intro h
    unfold m_Md_plan_J91
    refine z_s I (s_aload_n (pc' := 92) 0 rfl D_Md_plan_3.1.1.2.1 rfl rfl) ?_
    refine z_getI (pc' := 95) (jI := 16) I g_Md_133 ao rfl rfl D_Md_plan_3.1.1.2.2 rfl (fun f1 => ?_)
    refine z_s I (s_bipush (pc' := 97) D_Md_plan_3.1.2.1.1 rfl rfl) ?_
    refine z_icmp_ne (tgt := 103) (pc' := 100) I f1 (inR_c (x := 8) rfl) D_Md_plan_3.1.2.1.2 rfl rfl (fun c2 => ?_) (fun c2 => ?_)
    · refine z_s I (s_aload_n (pc' := 104) 0 rfl D_Md_plan_3.2.1.1.1 rfl rfl) ?_
      refine z_getR (pc' := 107) (eI := o + 11) I g_Md_46 ao rfl (by omega) D_Md_plan_3.2.1.1.2 rfl ?_
      have k3 : ok τ (0, 8) (o + 11) := r_Md_planWhat hw ao (by omega)
      refine z_s I (s_aload_n (pc' := 108) 0 rfl D_Md_plan_3.2.1.2.1 rfl rfl) ?_
      refine z_getI (pc' := 111) (jI := 16) I g_Md_133 ao rfl rfl D_Md_plan_3.2.1.2.2 rfl (fun f4 => ?_)
      refine z_s I (s_iload_n (pc' := 112) 1 rfl D_Md_plan_3.2.2.1.1 rfl rfl) ?_
      refine z_iast (pc' := 113) (nI := 8) I k3 f4 ax1 rfl D_Md_plan_3.2.2.1.2 rfl (fun c5 => ?_)
      refine z_bH (fun h6 e7 => ?_)
      refine z_s I (s_aload_n (pc' := 114) 0 rfl D_Md_plan_3.2.2.2.1 rfl rfl) ?_
      refine z_getR (pc' := 117) (eI := o + 12) I g_Md_49 ao rfl (by omega) D_Md_plan_3.2.2.2.2 rfl ?_
      have k8 : ok τ (0, 8) (o + 12) := r_Md_planK hw ao (by omega)
      refine z_s I (s_aload_n (pc' := 118) 0 rfl D_Md_plan_4.1.1.1.1 rfl rfl) ?_
      refine z_getI (pc' := 121) (jI := 16) I g_Md_133 ao rfl rfl D_Md_plan_4.1.1.1.2 rfl (fun f9 => ?_)
      refine z_s I (s_iload_n (pc' := 122) 2 rfl D_Md_plan_4.1.1.2.1 rfl rfl) ?_
      refine z_iast (pc' := 123) (nI := 8) I k8 f9 ax2 rfl D_Md_plan_4.1.1.2.2 rfl (fun c10 => ?_)
      refine z_bH (fun h11 e12 => ?_)
      refine z_s I (s_aload_n (pc' := 124) 0 rfl D_Md_plan_4.1.2.1.1 rfl rfl) ?_
      refine z_getR (pc' := 127) (eI := o + 13) I g_Md_52 ao rfl (by omega) D_Md_plan_4.1.2.1.2 rfl ?_
      have k13 : ok τ (0, 8) (o + 13) := r_Md_planV hw ao (by omega)
      refine z_s I (s_aload_n (pc' := 128) 0 rfl D_Md_plan_4.1.2.2.1 rfl rfl) ?_
      refine z_getI (pc' := 131) (jI := 16) I g_Md_133 ao rfl rfl D_Md_plan_4.1.2.2.2 rfl (fun f14 => ?_)
      refine z_s I (s_iload_n (pc' := 132) 3 rfl D_Md_plan_4.2.1.1.1 rfl rfl) ?_
      refine z_iast (pc' := 133) (nI := 8) I k13 f14 ax3 rfl D_Md_plan_4.2.1.1.2 rfl (fun c15 => ?_)
      refine z_bH (fun h16 e17 => ?_)
      refine z_s I (s_aload_n (pc' := 134) 0 rfl D_Md_plan_4.2.1.2.1 rfl rfl) ?_
      refine z_s I (s_dup (pc' := 135) rfl D_Md_plan_4.2.1.2.2 rfl) ?_
      refine z_getI (pc' := 138) (jI := 16) I g_Md_133 ao rfl rfl D_Md_plan_4.2.2.1.1 rfl (fun f18 => ?_)
      refine z_s I (s_iconst (pc' := 139) D_Md_plan_4.2.2.1.2 rfl) ?_
      refine z_s I (s_iadd (pc' := 140) D_Md_plan_4.2.2.2.1 rfl) ?_
      refine z_putI (pc' := 143) (jI := 16) I p_Md_133 ao rfl rfl (inR_w32 _) D_Md_plan_4.2.2.2.2 rfl ?_
      refine z_bH (fun h19 e20 => ?_)
      refine z_s I (s_aload_n (pc' := 144) 0 rfl D_Md_plan_5.1 rfl rfl) ?_
      refine z_getI (pc' := 147) (jI := 16) I g_Md_133 ao rfl rfl D_Md_plan_5.2.1 rfl (fun f21 => ?_)
      exact z_ret (w := some (vI (h19 o 16))) I (fun g => gk0 _ _ g f21) ⟨_, rfl⟩ D_Md_plan_5.2.2 rfl
    · refine z_s I (s_bipush (pc' := 102) D_Md_plan_3.1.2.2.1 rfl rfl) ?_
      exact z_ret (w := some (vI (-4))) I (fun g => gk0 _ _ g (inR_c (x := (-4)) rfl)) ⟨_, rfl⟩ D_Md_plan_3.1.2.2.2 rfl
  have J76 : ∀ (h : HP), Z Y (m_Md_plan_J76 o x1 x2 x3 h) G0 h 76 [(0, vR ad o), (1, vI x1), (2, vI x2), (3, vI x3)] [] := by
    intro h
    unfold m_Md_plan_J76
    refine z_s I (s_iload_n (pc' := 77) 3 rfl D_Md_plan_2.2.1.2.1 rfl rfl) ?_
    refine z_s I (s_i2l (pc' := 78) ax3 D_Md_plan_2.2.1.2.2 rfl) ?_
    refine z_s I (s_lconst (pc' := 79) (x := 0) D_Md_plan_2.2.2.1.1 rfl rfl) ?_
    refine z_ldc2 (pc' := 82) (x := 3) I cl_Md_163 (by decide +kernel) D_Md_plan_2.2.2.1.2 rfl ?_
    refine z_b1 (fun r24 q23 => ?_)
    refine z_callS (pc' := 85) I mv_Md_in ml_Md_119 (fun ad => [vL x3, vL 0, vL 3]) ⟨Nat.le_of_ble_eq_true rfl, Nat.le_of_ble_eq_true rfl⟩ (fun hh => c_Md_in hw (ax3).L (inL_c (x := 0) rfl) (inL_c (x := 3) rfl) hh q23) rfl rfl (Nat.le_of_ble_eq_true rfl) D_Md_plan_2.2.2.2.1 rfl (fun f22 => ?_)
    refine z_if_ne (tgt := 91) (pc' := 88) I (b01.R f22) D_Md_plan_2.2.2.2.2 rfl rfl (fun c25 => ?_) (fun c25 => ?_)
    · exact J91 _
    · refine z_s I (s_bipush (pc' := 90) D_Md_plan_3.1.1.1.1 rfl rfl) ?_
      exact z_ret (w := some (vI (-2))) I (fun g => gk0 _ _ g (inR_c (x := (-2)) rfl)) ⟨_, rfl⟩ D_Md_plan_3.1.1.1.2 rfl
  have J66 : ∀ (h : HP), Z Y (m_Md_plan_J66 o x1 x2 x3 h) G0 h 66 [(0, vR ad o), (1, vI x1), (2, vI x2), (3, vI x3)] [] := by
    intro h
    unfold m_Md_plan_J66
    refine z_s I (s_iload_n (pc' := 67) 1 rfl D_Md_plan_2.1.2.1.1 rfl rfl) ?_
    refine z_s I (s_iconst (pc' := 68) D_Md_plan_2.1.2.1.2 rfl) ?_
    refine z_icmp_eq (tgt := 76) (pc' := 71) I ax1 (b01.R bz1) D_Md_plan_2.1.2.2.1 rfl rfl (fun c26 => ?_) (fun c26 => ?_)
    · exact J76 _
    · refine z_s I (s_iload_n (pc' := 72) 1 rfl D_Md_plan_2.1.2.2.2 rfl rfl) ?_
      refine z_s I (s_iconst (pc' := 73) D_Md_plan_2.2.1.1.1 rfl) ?_
      refine z_icmp_ne (tgt := 91) (pc' := 76) I ax1 (inR_c (x := 2) rfl) D_Md_plan_2.2.1.1.2 rfl rfl (fun c27 => ?_) (fun c27 => ?_)
      · exact J91 _
      · exact J76 _
  have main : Z Y (m_Md_plan o x1 x2 x3 h) G0 h 0 [(0, vR ad o), (1, vI x1), (2, vI x2), (3, vI x3)] [] := by
    unfold m_Md_plan
    refine z_s I (s_iload_n (pc' := 1) 1 rfl D_Md_plan_0.1.1.1.1 rfl rfl) ?_
    refine z_s I (s_iconst (pc' := 2) D_Md_plan_0.1.1.1.2 rfl) ?_
    refine z_icmp_ne (tgt := 12) (pc' := 5) I ax1 (inR_c (x := (-1)) rfl) D_Md_plan_0.1.1.2.1 rfl rfl (fun c28 => ?_) (fun c28 => ?_)
    · refine z_s I (s_iload_n (pc' := 13) 1 rfl D_Md_plan_0.2.1.1.1 rfl rfl) ?_
      refine z_s I (s_i2l (pc' := 14) ax1 D_Md_plan_0.2.1.1.2 rfl) ?_
      refine z_s I (s_lconst (pc' := 15) (x := 0) D_Md_plan_0.2.1.2.1 rfl rfl) ?_
      refine z_ldc2 (pc' := 18) (x := 3) I cl_Md_163 (by decide +kernel) D_Md_plan_0.2.1.2.2 rfl ?_
      refine z_b1 (fun r31 q30 => ?_)
      refine z_callS (pc' := 21) I mv_Md_in ml_Md_119 (fun ad => [vL x1, vL 0, vL 3]) ⟨Nat.le_of_ble_eq_true rfl, Nat.le_of_ble_eq_true rfl⟩ (fun hh => c_Md_in hw (ax1).L (inL_c (x := 0) rfl) (inL_c (x := 3) rfl) hh q30) rfl rfl (Nat.le_of_ble_eq_true rfl) D_Md_plan_0.2.2.1.1 rfl (fun f29 => ?_)
      refine z_if_eq (tgt := 64) (pc' := 24) I (b01.R f29) D_Md_plan_0.2.2.1.2 rfl rfl (fun c32 => ?_) (fun c32 => ?_)
      · refine z_s I (s_iconst (pc' := 65) D_Md_plan_2.1.1.2.1 rfl) ?_
        exact z_ret (w := some (vI (-1))) I (fun g => gk0 _ _ g (inR_c (x := (-1)) rfl)) ⟨_, rfl⟩ D_Md_plan_2.1.1.2.2 rfl
      · refine z_s I (s_iload_n (pc' := 25) 1 rfl D_Md_plan_0.2.2.2.1 rfl rfl) ?_
        refine z_if_ne (tgt := 39) (pc' := 28) I ax1 D_Md_plan_0.2.2.2.2 rfl rfl (fun c33 => ?_) (fun c33 => ?_)
        · refine z_s I (s_iload_n (pc' := 40) 1 rfl D_Md_plan_1.1.2.1.2 rfl rfl) ?_
          refine z_s I (s_iconst (pc' := 41) D_Md_plan_1.1.2.2.1 rfl) ?_
          refine z_icmp_ne (tgt := 56) (pc' := 44) I ax1 (inR_c (x := 3) rfl) D_Md_plan_1.1.2.2.2 rfl rfl (fun c34 => ?_) (fun c34 => ?_)
          · refine z_s I (s_aload_n (pc' := 57) 0 rfl D_Md_plan_1.2.2.2.1 rfl rfl) ?_
            refine z_s I (s_iload_n (pc' := 58) 2 rfl D_Md_plan_1.2.2.2.2 rfl rfl) ?_
            refine z_b1 (fun r37 q36 => ?_)
            refine z_callV (pc' := 61) I mv_Md_isItem ml_Md_160 (fun ad => [vI x2]) ⟨Nat.le_of_ble_eq_true rfl, Nat.le_of_ble_eq_true rfl⟩ ao (fun hh => c_Md_isItem hw ao ax2 hh q36) rfl rfl (Nat.le_of_ble_eq_true rfl) D_Md_plan_2.1.1.1.1 rfl (fun f35 => ?_)
            refine z_if_ne (tgt := 66) (pc' := 64) I (b01.R f35) D_Md_plan_2.1.1.1.2 rfl rfl (fun c38 => ?_) (fun c38 => ?_)
            · exact J66 _
            · refine z_s I (s_iconst (pc' := 65) D_Md_plan_2.1.1.2.1 rfl) ?_
              exact z_ret (w := some (vI (-1))) I (fun g => gk0 _ _ g (inR_c (x := (-1)) rfl)) ⟨_, rfl⟩ D_Md_plan_2.1.1.2.2 rfl
          · refine z_s I (s_aload_n (pc' := 45) 0 rfl D_Md_plan_1.2.1.1.1 rfl rfl) ?_
            refine z_s I (s_iload_n (pc' := 46) 2 rfl D_Md_plan_1.2.1.1.2 rfl rfl) ?_
            refine z_s I (s_iload_n (pc' := 47) 3 rfl D_Md_plan_1.2.1.2.1 rfl rfl) ?_
            refine z_b1 (fun r41 q40 => ?_)
            refine z_callV (pc' := 50) I mv_Md_isTwo ml_Md_230 (fun ad => [vI x2, vI x3]) ⟨Nat.le_of_ble_eq_true rfl, Nat.le_of_ble_eq_true rfl⟩ ao (fun hh => c_Md_isTwo hw ao ax2 ax3 hh q40) rfl rfl (Nat.le_of_ble_eq_true rfl) D_Md_plan_1.2.1.2.2 rfl (fun f39 => ?_)
            refine z_if_eq (tgt := 64) (pc' := 53) I (b01.R f39) D_Md_plan_1.2.2.1.1 rfl rfl (fun c42 => ?_) (fun c42 => ?_)
            · refine z_s I (s_iconst (pc' := 65) D_Md_plan_2.1.1.2.1 rfl) ?_
              exact z_ret (w := some (vI (-1))) I (fun g => gk0 _ _ g (inR_c (x := (-1)) rfl)) ⟨_, rfl⟩ D_Md_plan_2.1.1.2.2 rfl
            · refine z_s I (s_goto (tgt := 66) D_Md_plan_1.2.2.1.2 rfl) ?_
              exact J66 _
        · refine z_s I (s_aload_n (pc' := 29) 0 rfl D_Md_plan_1.1.1.1.1 rfl rfl) ?_
          refine z_s I (s_iload_n (pc' := 30) 2 rfl D_Md_plan_1.1.1.1.2 rfl rfl) ?_
          refine z_b1 (fun r45 q44 => ?_)
          refine z_callV (pc' := 33) I mv_Md_isOne ml_Md_126 (fun ad => [vI x2]) ⟨Nat.le_of_ble_eq_true rfl, Nat.le_of_ble_eq_true rfl⟩ ao (fun hh => c_Md_isOne hw ao ax2 hh q44) rfl rfl (Nat.le_of_ble_eq_true rfl) D_Md_plan_1.1.1.2.1 rfl (fun f43 => ?_)
          refine z_if_eq (tgt := 64) (pc' := 36) I (b01.R f43) D_Md_plan_1.1.1.2.2 rfl rfl (fun c46 => ?_) (fun c46 => ?_)
          · refine z_s I (s_iconst (pc' := 65) D_Md_plan_2.1.1.2.1 rfl) ?_
            exact z_ret (w := some (vI (-1))) I (fun g => gk0 _ _ g (inR_c (x := (-1)) rfl)) ⟨_, rfl⟩ D_Md_plan_2.1.1.2.2 rfl
          · refine z_s I (s_goto (tgt := 66) D_Md_plan_1.1.2.1.1 rfl) ?_
            exact J66 _
    · refine z_s I (s_aload_n (pc' := 6) 0 rfl D_Md_plan_0.1.1.2.2 rfl rfl) ?_
      refine z_s I (s_iconst (pc' := 7) D_Md_plan_0.1.2.1.1 rfl) ?_
      refine z_putI (pc' := 10) (jI := 16) I p_Md_133 ao rfl rfl (b01.R bz0) D_Md_plan_0.1.2.1.2 rfl ?_
      refine z_bH (fun h47 e48 => ?_)
      refine z_s I (s_iconst (pc' := 11) D_Md_plan_0.1.2.2.1 rfl) ?_
      exact z_ret (w := some (vI 0)) I (fun g => gk0 _ _ g (b01.R bz0)) ⟨_, rfl⟩ D_Md_plan_0.1.2.2.2 rfl
  exact main _ hF (by rw [hG0])
set_option maxHeartbeats 4000000 in
set_option maxRecDepth 20000 in
theorem c_Md_copies {l : Launch} {τ : TP} {r0 : Int} {r1 : Int} {n0 : Nat} {m0 : Int} {n1 : Nat} {m1 : Int} {h : HP} {h' : HP} (hw : wf τ) (ar0 : ok τ (0, n0) r0) (ar1 : ok τ (0, n1) r1) (hn0 : (n0 : Int) = m0) (gn0 : inR m0) (hn1 : (n1 : Int) = m1) (gn1 : inR m1) (hh : hr τ h) (hF : m_Md_copies r0 r1 m0 m1 h = some h') : Ctr l y_Md_copies k_Md_copies 3 (Option.none : Option FieldType) 0 0 τ (fun ad => [vR ad r0, vR ad r1]) h none h' (True) := by
  refine ctr_of (by decide) hw hh (fun ad => Nat.le_of_ble_eq_true rfl) (fun ad K Y I hK => ?_)
  obtain ⟨G0, hG0⟩ : ∃ G : HP → Prop, G = fun x => x = h' := ⟨_, rfl⟩
  have gk0 : ∀ (x : HP), G0 x → K none x := fun x g => by
    rw [hG0] at g
    cases g
    exact hK trivial
  have L2 : ∀ (s : Int × HP), (inR (s.1)) → Z Y (m_Md_copies_L2 r0 r1 m0 m1 s) G0 (s.2) 2 [(0, vR ad r0), (1, vR ad r1), (2, vI (s.1))] [] := by
    intro s hs
    refine z_loop (G := G0) (hO := fun s : Int × HP => s.2) (lO := fun s : Int × HP => [(0, vR ad r0), (1, vR ad r1), (2, vI (s.1))]) (Φ := fun s : Int × HP => inR (s.1)) (fun G1 hin1_1 hout1 s hs => ?_) FUEL s hs
    obtain ⟨x2, h⟩ := s
    have ax2 := hs
    have gk1 := fun (x : HP) (g : G1 (.inr (x))) => gk0 x (hout1 _ g)
    show Z Y (m_Md_copies_L2b r0 r1 m0 m1 x2 h) G1 h 2 [(0, vR ad r0), (1, vR ad r1), (2, vI x2)] []
    unfold m_Md_copies_L2b
    refine z_s I (s_iload_n (pc' := 3) 2 rfl D_Md_copies_0.1.1.2.2 rfl rfl) ?_
    refine z_s I (s_aload_n (pc' := 4) 0 rfl D_Md_copies_0.1.2.1.1 rfl rfl) ?_
    refine z_alen (pc' := 5) (nI := m0) I ar0 hn0 D_Md_copies_0.1.2.1.2 rfl ?_
    refine z_icmp_ge (tgt := 20) (pc' := 8) I ax2 gn0 D_Md_copies_0.1.2.2.1 rfl rfl (fun c1 => ?_) (fun c1 => ?_)
    · exact z_ret (w := none) I (fun g => gk1 _ g) rfl D_Md_copies_0.2.2.2.2 rfl
    · refine z_s I (s_aload_n (pc' := 9) 1 rfl D_Md_copies_0.1.2.2.2 rfl rfl) ?_
      refine z_s I (s_iload_n (pc' := 10) 2 rfl D_Md_copies_0.2.1.1.1 rfl rfl) ?_
      refine z_s I (s_aload_n (pc' := 11) 0 rfl D_Md_copies_0.2.1.1.2 rfl rfl) ?_
      refine z_s I (s_iload_n (pc' := 12) 2 rfl D_Md_copies_0.2.1.2.1 rfl rfl) ?_
      refine z_iald (pc' := 13) (nI := m0) I ar0 ax2 hn0 D_Md_copies_0.2.1.2.2 rfl (fun c2 f3 => ?_)
      refine z_iast (pc' := 14) (nI := m1) I ar1 ax2 f3 hn1 D_Md_copies_0.2.2.1.1 rfl (fun c4 => ?_)
      refine z_bH (fun h5 e6 => ?_)
      refine z_s I (s_iinc (pc' := 17) (lv' := [(2, vI (w32 (x2 + 1))), (0, vR ad r0), (1, vR ad r1)]) (n := 2) rfl D_Md_copies_0.2.2.1.2 (by decide) rfl rfl) ?_
      refine z_s I (s_goto (tgt := 2) D_Md_copies_0.2.2.2.1 rfl) ?_
      refine z_s I (s_lv (lv' := [(0, vR ad r0), (1, vR ad r1), (2, vI (w32 (x2 + 1)))]) [1, 2, 0] rfl) ?_
      exact z_end (fun g => hin1_1 _ g (inR_w32 _))
  have main : Z Y (m_Md_copies r0 r1 m0 m1 h) G0 h 0 [(0, vR ad r0), (1, vR ad r1)] [] := by
    unfold m_Md_copies
    refine z_s I (s_iconst (pc' := 1) D_Md_copies_0.1.1.1 rfl) ?_
    refine z_s I (s_istore_n (pc' := 2) (lv' := [(2, vI 0), (0, vR ad r0), (1, vR ad r1)]) D_Md_copies_0.1.1.2.1 rfl (by decide) rfl rfl) ?_
    refine z_s I (s_lv (lv' := [(0, vR ad r0), (1, vR ad r1), (2, vI 0)]) [1, 2, 0] rfl) ?_
    exact L2 _ (b01.R bz0)
  exact main _ hF (by rw [hG0])
set_option maxHeartbeats 4000000 in
set_option maxRecDepth 20000 in
theorem c_Md_goes {l : Launch} {τ : TP} {o : Int} {x1 : Int} {x2 : Int} {x3 : Int} {h : HP} {h' : HP} (hw : wf τ) (ao : ok τ (4, 10) o) (ax1 : inR x1) (ax2 : inR x2) (ax3 : inR x3) (hh : hr τ h) (hF : m_Md_goes o x1 x2 x3 h = some h') : Ctr l y_Md_goes k_Md_goes 5 (Option.none : Option FieldType) 0 0 τ (fun ad => [vR ad o, vI x1, vI x2, vI x3]) h none h' (True) := by
  refine ctr_of (by decide) hw hh (fun ad => Nat.le_of_ble_eq_true rfl) (fun ad K Y I hK => ?_)
  obtain ⟨G0, hG0⟩ : ∃ G : HP → Prop, G = fun x => x = h' := ⟨_, rfl⟩
  have gk0 : ∀ (x : HP), G0 x → K none x := fun x g => by
    rw [hG0] at g
    cases g
    exact hK trivial
  have L51 : ∀ (s : Int × HP), (inR (s.1)) → Z Y (m_Md_goes_L51 o x1 x2 x3 s) G0 (s.2) 51 [(0, vR ad o), (1, vI x1), (2, vI x2), (3, vI x3), (4, vI (s.1))] [] := by
    intro s hs
    refine z_loop (G := G0) (hO := fun s : Int × HP => s.2) (lO := fun s : Int × HP => [(0, vR ad o), (1, vI x1), (2, vI x2), (3, vI x3), (4, vI (s.1))]) (Φ := fun s : Int × HP => inR (s.1)) (fun G1 hin1_1 hout1 s hs => ?_) FUEL s hs
    obtain ⟨x4, h⟩ := s
    have ax4 := hs
    have gk1 := fun (x : HP) (g : G1 (.inr (x))) => gk0 x (hout1 _ g)
    have J89 : ∀ (x4 : Int) (ax4 : inR x4) (s0 : Int) (as0 : ok τ (0, 64) s0) (s1 : Int) (as1 : inR s1) (s2 : Int) (as2 : inR s2) (h : HP), Z Y (m_Md_goes_J89 o x1 x2 x3 x4 s0 s1 s2 h) G1 h 89 [(0, vR ad o), (1, vI x1), (2, vI x2), (3, vI x3), (4, vI x4)] [vI s2, vI s1, vR ad s0] := by
      intro x4 ax4 s0 as0 s1 as1 s2 as2 h
      unfold m_Md_goes_J89
      refine z_iast (pc' := 90) (nI := 64) I as0 as1 as2 rfl D_Md_goes_2.2.1.2 rfl (fun c1 => ?_)
      refine z_bH (fun h2 e3 => ?_)
      refine z_s I (s_iinc (pc' := 93) (lv' := [(4, vI (w32 (x4 + 1))), (0, vR ad o), (1, vI x1), (2, vI x2), (3, vI x3)]) (n := 4) rfl D_Md_goes_2.2.2.1 (by decide) rfl rfl) ?_
      refine z_s I (s_goto (tgt := 51) D_Md_goes_2.2.2.2.1 rfl) ?_
      refine z_s I (s_lv (lv' := [(0, vR ad o), (1, vI x1), (2, vI x2), (3, vI x3), (4, vI (w32 (x4 + 1)))]) [1, 2, 3, 4, 0] rfl) ?_
      exact z_end (fun g => hin1_1 _ g (inR_w32 _))
    show Z Y (m_Md_goes_L51b o x1 x2 x3 x4 h) G1 h 51 [(0, vR ad o), (1, vI x1), (2, vI x2), (3, vI x3), (4, vI x4)] []
    unfold m_Md_goes_L51b
    refine z_s I (s_iload (pc' := 53) 4 rfl D_Md_goes_1.1.1.1.1 rfl) ?_
    refine z_s I (s_bipush (pc' := 55) D_Md_goes_1.1.1.1.2 rfl rfl) ?_
    refine z_icmp_ge (tgt := 96) (pc' := 58) I ax4 (inR_c (x := 8) rfl) D_Md_goes_1.1.1.2.1 rfl rfl (fun c4 => ?_) (fun c4 => ?_)
    · exact z_ret (w := none) I (fun g => gk1 _ g) rfl D_Md_goes_2.2.2.2.2 rfl
    · refine z_s I (s_aload_n (pc' := 59) 0 rfl D_Md_goes_1.1.1.2.2 rfl rfl) ?_
      refine z_getR (pc' := 62) (eI := o + 4) I g_Md_25 ao rfl (by omega) D_Md_goes_1.1.2.1.1 rfl ?_
      have k5 : ok τ (0, 64) (o + 4) := r_Md_given hw ao (by omega)
      refine z_s I (s_bipush (pc' := 64) D_Md_goes_1.1.2.1.2 rfl rfl) ?_
      refine z_s I (s_iload_n (pc' := 65) 2 rfl D_Md_goes_1.1.2.2.1 rfl rfl) ?_
      refine z_s I (s_imul (pc' := 66) D_Md_goes_1.1.2.2.2 rfl) ?_
      refine z_s I (s_iload (pc' := 68) 4 rfl D_Md_goes_1.2.1.1.1 rfl) ?_
      refine z_s I (s_iadd (pc' := 69) D_Md_goes_1.2.1.1.2 rfl) ?_
      refine z_s I (s_iload_n (pc' := 70) 1 rfl D_Md_goes_1.2.1.2.1 rfl rfl) ?_
      refine z_if_ne (tgt := 77) (pc' := 73) I ax1 D_Md_goes_1.2.1.2.2 rfl rfl (fun c6 => ?_) (fun c6 => ?_)
      · refine z_s I (s_aload_n (pc' := 78) 0 rfl D_Md_goes_1.2.2.2.1 rfl rfl) ?_
        refine z_getR (pc' := 81) (eI := o + 4) I g_Md_25 ao rfl (by omega) D_Md_goes_1.2.2.2.2 rfl ?_
        have k7 : ok τ (0, 64) (o + 4) := r_Md_given hw ao (by omega)
        refine z_s I (s_bipush (pc' := 83) D_Md_goes_2.1.1.1 rfl rfl) ?_
        refine z_s I (s_iload_n (pc' := 84) 3 rfl D_Md_goes_2.1.1.2 rfl rfl) ?_
        refine z_s I (s_imul (pc' := 85) D_Md_goes_2.1.2.1 rfl) ?_
        refine z_s I (s_iload (pc' := 87) 4 rfl D_Md_goes_2.1.2.2.1 rfl) ?_
        refine z_s I (s_iadd (pc' := 88) D_Md_goes_2.1.2.2.2 rfl) ?_
        refine z_iald (pc' := 89) (nI := 64) I k7 (inR_w32 _) rfl D_Md_goes_2.2.1.1 rfl (fun c8 f9 => ?_)
        exact J89 _ ax4 _ k5 _ (inR_w32 _) _ f9 _
      · refine z_s I (s_iconst (pc' := 74) D_Md_goes_1.2.2.1.1 rfl) ?_
        refine z_s I (s_goto (tgt := 89) D_Md_goes_1.2.2.1.2 rfl) ?_
        exact J89 _ ax4 _ k5 _ (inR_w32 _) _ (inR_c (x := (-1)) rfl) _
  have main : Z Y (m_Md_goes o x1 x2 x3 h) G0 h 0 [(0, vR ad o), (1, vI x1), (2, vI x2), (3, vI x3)] [] := by
    unfold m_Md_goes
    refine z_s I (s_iload_n (pc' := 1) 1 rfl D_Md_goes_0.1.1.1.1 rfl rfl) ?_
    refine z_ite (fun c10 => ?_) (fun c10 => ?_)
    · refine z_look (tgt := 28) I ax1 D_Md_goes_0.1.1.1.2 rfl (by rw [c10]) rfl ?_
      refine z_s I (s_aload_n (pc' := 29) 0 rfl D_Md_goes_0.1.1.2.1 rfl rfl) ?_
      refine z_getR (pc' := 32) (eI := o + 1) I g_Md_15 ao rfl (by omega) D_Md_goes_0.1.1.2.2 rfl ?_
      have k11 : ok τ (0, 8) (o + 1) := r_Md_right hw ao (by omega)
      refine z_s I (s_iload_n (pc' := 33) 2 rfl D_Md_goes_0.1.2.1.1 rfl rfl) ?_
      refine z_s I (s_iload_n (pc' := 34) 3 rfl D_Md_goes_0.1.2.1.2 rfl rfl) ?_
      refine z_iast (pc' := 35) (nI := 8) I k11 ax2 ax3 rfl D_Md_goes_0.1.2.2.1 rfl (fun c12 => ?_)
      refine z_bH (fun h13 e14 => ?_)
      refine z_s I (s_goto (tgt := 96) D_Md_goes_0.1.2.2.2 rfl) ?_
      exact z_ret (w := none) I (fun g => gk0 _ g) rfl D_Md_goes_2.2.2.2.2 rfl
    · skip
      refine z_ite (fun c15 => ?_) (fun c15 => ?_)
      · refine z_look (tgt := 38) I ax1 D_Md_goes_0.1.1.1.2 rfl (by rw [c15]) rfl ?_
        refine z_s I (s_aload_n (pc' := 39) 0 rfl D_Md_goes_0.2.1.1.1 rfl rfl) ?_
        refine z_getR (pc' := 42) (eI := o + 2) I g_Md_19 ao rfl (by omega) D_Md_goes_0.2.1.1.2 rfl ?_
        have k16 : ok τ (0, 8) (o + 2) := r_Md_kind hw ao (by omega)
        refine z_s I (s_iload_n (pc' := 43) 2 rfl D_Md_goes_0.2.1.2.1 rfl rfl) ?_
        refine z_s I (s_iload_n (pc' := 44) 3 rfl D_Md_goes_0.2.1.2.2 rfl rfl) ?_
        refine z_iast (pc' := 45) (nI := 8) I k16 ax2 ax3 rfl D_Md_goes_0.2.2.1.1 rfl (fun c17 => ?_)
        refine z_bH (fun h18 e19 => ?_)
        refine z_s I (s_goto (tgt := 96) D_Md_goes_0.2.2.1.2 rfl) ?_
        exact z_ret (w := none) I (fun g => gk0 _ g) rfl D_Md_goes_2.2.2.2.2 rfl
      · skip
        refine z_look (tgt := 48) (off := 47) I ax1 D_Md_goes_0.1.1.1.2 rfl (by have := c10; simp [Op.lookupswitch.offset]; omega) rfl ?_
        refine z_s I (s_iconst (pc' := 49) D_Md_goes_0.2.2.2.1 rfl) ?_
        refine z_s I (s_istore (pc' := 51) (lv' := [(4, vI 0), (0, vR ad o), (1, vI x1), (2, vI x2), (3, vI x3)]) D_Md_goes_0.2.2.2.2 (by decide) rfl rfl) ?_
        refine z_s I (s_lv (lv' := [(0, vR ad o), (1, vI x1), (2, vI x2), (3, vI x3), (4, vI 0)]) [1, 2, 3, 4, 0] rfl) ?_
        exact L51 _ (b01.R bz0)
  exact main _ hF (by rw [hG0])
set_option maxHeartbeats 4000000 in
set_option maxRecDepth 20000 in
theorem c_Md_ends {l : Launch} {τ : TP} {o : Int} {h : HP} {r : Int} {h' : HP} (hw : wf τ) (ao : ok τ (4, 10) o) (hh : hr τ h) (hF : m_Md_ends o h = some (r, h')) : Ctr l y_Md_ends k_Md_ends 2 (Option.some FieldType.int) 9 240 τ (fun ad => [vR ad o]) h (some (vI r)) h' (inR r) := by
  refine ctr_of (by decide) hw hh (fun ad => Nat.le_of_ble_eq_true rfl) (fun ad K Y I hK => ?_)
  obtain ⟨G0, hG0⟩ : ∃ G : Int × HP → Prop, G = fun x => x = (r, h') := ⟨_, rfl⟩
  have gk0 : ∀ (x : Int) (y : HP), G0 (x, y) → inR x → K (some (vI x)) y := fun x y g q => by
    rw [hG0] at g
    cases g
    exact hK q
  have J71 : ∀ (h : HP), Z Y (m_Md_ends_J71 o h) G0 h 71 [(0, vR ad o)] [] := by
    intro h
    unfold m_Md_ends_J71
    refine z_s I (s_aload_n (pc' := 72) 0 rfl D_Md_ends_2.1.2.1.2 rfl rfl) ?_
    refine z_b2 (fun r3 h4 q2 => ?_)
    refine z_callV (pc' := 75) I mv_Md_suspects ml_Md_320 (fun ad => []) ⟨Nat.le_of_ble_eq_true rfl, Nat.le_of_ble_eq_true rfl⟩ ao (fun hh => c_Md_suspects hw ao hh q2) rfl rfl (Nat.le_of_ble_eq_true rfl) D_Md_ends_2.1.2.2.1 rfl (fun f1 => ?_)
    refine z_s I (s_istore_n (pc' := 76) (lv' := [(1, vI r3), (0, vR ad o)]) D_Md_ends_2.1.2.2.2 rfl (by decide) rfl rfl) ?_
    refine z_s I (s_aload_n (pc' := 77) 1 rfl D_Md_ends_2.2.1.1.1 rfl rfl) ?_
    refine z_getR (pc' := 80) (eI := o + 26) I g_Md_93 ao rfl (by omega) D_Md_ends_2.2.1.1.2 rfl ?_
    have k5 : ok τ (0, 64) (o + 26) := r_Md_givenWas hw ao (by omega)
    refine z_s I (s_aload_n (pc' := 81) 1 rfl D_Md_ends_2.2.1.2.1 rfl rfl) ?_
    refine z_getR (pc' := 84) (eI := o + 4) I g_Md_25 ao rfl (by omega) D_Md_ends_2.2.1.2.2 rfl ?_
    have k6 : ok τ (0, 64) (o + 4) := r_Md_given hw ao (by omega)
    refine z_b1 (fun h9 q8 => ?_)
    refine z_callS (pc' := 87) I mv_Md_copies ml_Md_372 (fun ad => [vR ad (o + 26), vR ad (o + 4)]) ⟨Nat.le_of_ble_eq_true rfl, Nat.le_of_ble_eq_true rfl⟩ (fun hh => c_Md_copies hw k5 k6 rfl (inR_c (x := 64) rfl) rfl (inR_c (x := 64) rfl) hh q8) rfl rfl (Nat.le_of_ble_eq_true rfl) D_Md_ends_2.2.2.1.1 rfl (fun f7 => ?_)
    refine z_s I (s_aload_n (pc' := 88) 1 rfl D_Md_ends_2.2.2.1.2 rfl rfl) ?_
    refine z_getR (pc' := 91) (eI := o + 27) I g_Md_96 ao rfl (by omega) D_Md_ends_2.2.2.2.1 rfl ?_
    have k10 : ok τ (0, 8) (o + 27) := r_Md_rightWas hw ao (by omega)
    refine z_s I (s_aload_n (pc' := 92) 1 rfl D_Md_ends_2.2.2.2.2 rfl rfl) ?_
    refine z_getR (pc' := 95) (eI := o + 1) I g_Md_15 ao rfl (by omega) D_Md_ends_3.1.1.1 rfl ?_
    have k11 : ok τ (0, 8) (o + 1) := r_Md_right hw ao (by omega)
    refine z_b1 (fun h14 q13 => ?_)
    refine z_callS (pc' := 98) I mv_Md_copies ml_Md_372 (fun ad => [vR ad (o + 27), vR ad (o + 1)]) ⟨Nat.le_of_ble_eq_true rfl, Nat.le_of_ble_eq_true rfl⟩ (fun hh => c_Md_copies hw k10 k11 rfl (inR_c (x := 8) rfl) rfl (inR_c (x := 8) rfl) hh q13) rfl rfl (Nat.le_of_ble_eq_true rfl) D_Md_ends_3.1.1.2 rfl (fun f12 => ?_)
    refine z_s I (s_aload_n (pc' := 99) 1 rfl D_Md_ends_3.1.2.1 rfl rfl) ?_
    refine z_getR (pc' := 102) (eI := o + 28) I g_Md_99 ao rfl (by omega) D_Md_ends_3.1.2.2 rfl ?_
    have k15 : ok τ (0, 8) (o + 28) := r_Md_kindWas hw ao (by omega)
    refine z_s I (s_aload_n (pc' := 103) 1 rfl D_Md_ends_3.2.1.1 rfl rfl) ?_
    refine z_getR (pc' := 106) (eI := o + 2) I g_Md_19 ao rfl (by omega) D_Md_ends_3.2.1.2 rfl ?_
    have k16 : ok τ (0, 8) (o + 2) := r_Md_kind hw ao (by omega)
    refine z_b1 (fun h19 q18 => ?_)
    refine z_callS (pc' := 109) I mv_Md_copies ml_Md_372 (fun ad => [vR ad (o + 28), vR ad (o + 2)]) ⟨Nat.le_of_ble_eq_true rfl, Nat.le_of_ble_eq_true rfl⟩ (fun hh => c_Md_copies hw k15 k16 rfl (inR_c (x := 8) rfl) rfl (inR_c (x := 8) rfl) hh q18) rfl rfl (Nat.le_of_ble_eq_true rfl) D_Md_ends_3.2.2.1 rfl (fun f17 => ?_)
    refine z_s I (s_iload_n (pc' := 110) 0 rfl D_Md_ends_3.2.2.2.1 rfl rfl) ?_
    exact z_ret (w := some (vI r3)) I (fun g => gk0 _ _ g f1) ⟨_, rfl⟩ D_Md_ends_3.2.2.2.2 rfl
  have L35 : ∀ (s : Int × HP), (inR (s.1)) → Z Y (m_Md_ends_L35 o s) G0 (s.2) 35 [(0, vR ad o), (1, vI (s.1))] [] := by
    intro s hs
    refine z_loop (G := G0) (hO := fun s : Int × HP => s.2) (lO := fun s : Int × HP => [(0, vR ad o), (1, vI (s.1))]) (Φ := fun s : Int × HP => inR (s.1)) (fun G1 hin1_1 hout1 s hs => ?_) FUEL s hs
    obtain ⟨x1, h⟩ := s
    have ax1 := hs
    have gk1 := fun (x : Int) (y : HP) (g : G1 (.inr ((x, y)))) (q : inR x) => gk0 x y (hout1 _ g) q
    show Z Y (m_Md_ends_L35b o x1 h) G1 h 35 [(0, vR ad o), (1, vI x1)] []
    unfold m_Md_ends_L35b
    refine z_s I (s_iload_n (pc' := 36) 1 rfl D_Md_ends_1.1.1.1.2 rfl rfl) ?_
    refine z_s I (s_aload_n (pc' := 37) 0 rfl D_Md_ends_1.1.1.2.1 rfl rfl) ?_
    refine z_getI (pc' := 40) (jI := 16) I g_Md_133 ao rfl rfl D_Md_ends_1.1.1.2.2 rfl (fun f20 => ?_)
    refine z_icmp_ge (tgt := 71) (pc' := 43) I ax1 f20 D_Md_ends_1.1.2.1.1 rfl rfl (fun c21 => ?_) (fun c21 => ?_)
    · refine z_map _ (fun x g => hout1 x g) ?_
      refine z_s I (s_lv (lv' := [(0, vR ad o)]) [0] rfl) ?_
      exact J71 _
    · refine z_s I (s_aload_n (pc' := 44) 0 rfl D_Md_ends_1.1.2.1.2 rfl rfl) ?_
      refine z_s I (s_aload_n (pc' := 45) 0 rfl D_Md_ends_1.1.2.2.1 rfl rfl) ?_
      refine z_getR (pc' := 48) (eI := o + 11) I g_Md_46 ao rfl (by omega) D_Md_ends_1.1.2.2.2 rfl ?_
      have k22 : ok τ (0, 8) (o + 11) := r_Md_planWhat hw ao (by omega)
      refine z_s I (s_iload_n (pc' := 49) 1 rfl D_Md_ends_1.2.1.1.1 rfl rfl) ?_
      refine z_iald (pc' := 50) (nI := 8) I k22 ax1 rfl D_Md_ends_1.2.1.1.2 rfl (fun c23 f24 => ?_)
      refine z_s I (s_aload_n (pc' := 51) 0 rfl D_Md_ends_1.2.1.2.1 rfl rfl) ?_
      refine z_getR (pc' := 54) (eI := o + 12) I g_Md_49 ao rfl (by omega) D_Md_ends_1.2.1.2.2 rfl ?_
      have k25 : ok τ (0, 8) (o + 12) := r_Md_planK hw ao (by omega)
      refine z_s I (s_iload_n (pc' := 55) 1 rfl D_Md_ends_1.2.2.1.1 rfl rfl) ?_
      refine z_iald (pc' := 56) (nI := 8) I k25 ax1 rfl D_Md_ends_1.2.2.1.2 rfl (fun c26 f27 => ?_)
      refine z_s I (s_aload_n (pc' := 57) 0 rfl D_Md_ends_1.2.2.2.1 rfl rfl) ?_
      refine z_getR (pc' := 60) (eI := o + 13) I g_Md_52 ao rfl (by omega) D_Md_ends_1.2.2.2.2 rfl ?_
      have k28 : ok τ (0, 8) (o + 13) := r_Md_planV hw ao (by omega)
      refine z_s I (s_iload_n (pc' := 61) 1 rfl D_Md_ends_2.1.1.1.1 rfl rfl) ?_
      refine z_iald (pc' := 62) (nI := 8) I k28 ax1 rfl D_Md_ends_2.1.1.1.2 rfl (fun c29 f30 => ?_)
      refine z_b1 (fun h33 q32 => ?_)
      refine z_callV (pc' := 65) I mv_Md_goes ml_Md_376 (fun ad => [vI (h (o + 11) x1), vI (h (o + 12) x1), vI (h (o + 13) x1)]) ⟨Nat.le_of_ble_eq_true rfl, Nat.le_of_ble_eq_true rfl⟩ ao (fun hh => c_Md_goes hw ao f24 f27 f30 hh q32) rfl rfl (Nat.le_of_ble_eq_true rfl) D_Md_ends_2.1.1.2.1 rfl (fun f31 => ?_)
      refine z_s I (s_iinc (pc' := 68) (lv' := [(1, vI (w32 (x1 + 1))), (0, vR ad o)]) (n := 1) rfl D_Md_ends_2.1.1.2.2 (by decide) rfl rfl) ?_
      refine z_s I (s_goto (tgt := 35) D_Md_ends_2.1.2.1.1 rfl) ?_
      refine z_s I (s_lv (lv' := [(0, vR ad o), (1, vI (w32 (x1 + 1)))]) [1, 0] rfl) ?_
      exact z_end (fun g => hin1_1 _ g (inR_w32 _))
  have main : Z Y (m_Md_ends o h) G0 h 0 [(0, vR ad o)] [] := by
    unfold m_Md_ends
    refine z_s I (s_aload_n (pc' := 1) 0 rfl D_Md_ends_0.1.1.1.1 rfl rfl) ?_
    refine z_getR (pc' := 4) (eI := o + 4) I g_Md_25 ao rfl (by omega) D_Md_ends_0.1.1.1.2 rfl ?_
    have k34 : ok τ (0, 64) (o + 4) := r_Md_given hw ao (by omega)
    refine z_s I (s_aload_n (pc' := 5) 0 rfl D_Md_ends_0.1.1.2.1 rfl rfl) ?_
    refine z_getR (pc' := 8) (eI := o + 26) I g_Md_93 ao rfl (by omega) D_Md_ends_0.1.1.2.2 rfl ?_
    have k35 : ok τ (0, 64) (o + 26) := r_Md_givenWas hw ao (by omega)
    refine z_b1 (fun h38 q37 => ?_)
    refine z_callS (pc' := 11) I mv_Md_copies ml_Md_372 (fun ad => [vR ad (o + 4), vR ad (o + 26)]) ⟨Nat.le_of_ble_eq_true rfl, Nat.le_of_ble_eq_true rfl⟩ (fun hh => c_Md_copies hw k34 k35 rfl (inR_c (x := 64) rfl) rfl (inR_c (x := 64) rfl) hh q37) rfl rfl (Nat.le_of_ble_eq_true rfl) D_Md_ends_0.1.2.1.1 rfl (fun f36 => ?_)
    refine z_s I (s_aload_n (pc' := 12) 0 rfl D_Md_ends_0.1.2.1.2 rfl rfl) ?_
    refine z_getR (pc' := 15) (eI := o + 1) I g_Md_15 ao rfl (by omega) D_Md_ends_0.1.2.2.1 rfl ?_
    have k39 : ok τ (0, 8) (o + 1) := r_Md_right hw ao (by omega)
    refine z_s I (s_aload_n (pc' := 16) 0 rfl D_Md_ends_0.1.2.2.2 rfl rfl) ?_
    refine z_getR (pc' := 19) (eI := o + 27) I g_Md_96 ao rfl (by omega) D_Md_ends_0.2.1.1.1 rfl ?_
    have k40 : ok τ (0, 8) (o + 27) := r_Md_rightWas hw ao (by omega)
    refine z_b1 (fun h43 q42 => ?_)
    refine z_callS (pc' := 22) I mv_Md_copies ml_Md_372 (fun ad => [vR ad (o + 1), vR ad (o + 27)]) ⟨Nat.le_of_ble_eq_true rfl, Nat.le_of_ble_eq_true rfl⟩ (fun hh => c_Md_copies hw k39 k40 rfl (inR_c (x := 8) rfl) rfl (inR_c (x := 8) rfl) hh q42) rfl rfl (Nat.le_of_ble_eq_true rfl) D_Md_ends_0.2.1.1.2 rfl (fun f41 => ?_)
    refine z_s I (s_aload_n (pc' := 23) 0 rfl D_Md_ends_0.2.1.2.1 rfl rfl) ?_
    refine z_getR (pc' := 26) (eI := o + 2) I g_Md_19 ao rfl (by omega) D_Md_ends_0.2.1.2.2 rfl ?_
    have k44 : ok τ (0, 8) (o + 2) := r_Md_kind hw ao (by omega)
    refine z_s I (s_aload_n (pc' := 27) 0 rfl D_Md_ends_0.2.2.1.1 rfl rfl) ?_
    refine z_getR (pc' := 30) (eI := o + 28) I g_Md_99 ao rfl (by omega) D_Md_ends_0.2.2.1.2 rfl ?_
    have k45 : ok τ (0, 8) (o + 28) := r_Md_kindWas hw ao (by omega)
    refine z_b1 (fun h48 q47 => ?_)
    refine z_callS (pc' := 33) I mv_Md_copies ml_Md_372 (fun ad => [vR ad (o + 2), vR ad (o + 28)]) ⟨Nat.le_of_ble_eq_true rfl, Nat.le_of_ble_eq_true rfl⟩ (fun hh => c_Md_copies hw k44 k45 rfl (inR_c (x := 8) rfl) rfl (inR_c (x := 8) rfl) hh q47) rfl rfl (Nat.le_of_ble_eq_true rfl) D_Md_ends_0.2.2.2.1 rfl (fun f46 => ?_)
    refine z_s I (s_iconst (pc' := 34) D_Md_ends_0.2.2.2.2 rfl) ?_
    refine z_s I (s_istore_n (pc' := 35) (lv' := [(1, vI 0), (0, vR ad o)]) D_Md_ends_1.1.1.1.1 rfl (by decide) rfl rfl) ?_
    refine z_s I (s_lv (lv' := [(0, vR ad o), (1, vI 0)]) [1, 0] rfl) ?_
    exact L35 _ (b01.R bz0)
  exact main _ hF (by rw [hG0])
set_option maxHeartbeats 4000000 in
set_option maxRecDepth 20000 in
theorem c_Md_isTape {l : Launch} {τ : TP} {x0 : Int} {h : HP} {r : Int} (hw : wf τ) (ax0 : inR x0) (hh : hr τ h) (hF : m_Md_isTape x0 h = some r) : Ctr l y_Md_isTape k_Md_isTape 1 (Option.some FieldType.boolean) 1 25 τ (fun ad => [vI x0]) h (some (vI r)) h (b01 r) := by
  refine ctr_of (by decide) hw hh (fun ad => Nat.le_of_ble_eq_true rfl) (fun ad K Y I hK => ?_)
  obtain ⟨G0, hG0⟩ : ∃ G : Int → Prop, G = fun x => x = r := ⟨_, rfl⟩
  have gk0 : ∀ (x : Int), G0 x → b01 x → K (some (vI x)) h := fun x g q => by
    rw [hG0] at g
    cases g
    exact hK q
  have main : Z Y (m_Md_isTape x0 h) G0 h 0 [(0, vI x0)] [] := by
    unfold m_Md_isTape
    refine z_s I (s_iload_n (pc' := 1) 0 rfl D_Md_isTape_0.1.1 rfl rfl) ?_
    refine z_s I (s_i2l (pc' := 2) ax0 D_Md_isTape_0.1.2.1 rfl) ?_
    refine z_s I (s_lconst (pc' := 3) (x := 0) D_Md_isTape_0.1.2.2 rfl rfl) ?_
    refine z_ldc2 (pc' := 6) (x := 5) I cl_Md_207 (by decide +kernel) D_Md_isTape_0.2.1 rfl ?_
    refine z_b1 (fun r3 q2 => ?_)
    refine z_callS (pc' := 9) I mv_Md_in ml_Md_119 (fun ad => [vL x0, vL 0, vL 5]) ⟨Nat.le_of_ble_eq_true rfl, Nat.le_of_ble_eq_true rfl⟩ (fun hh => c_Md_in hw (ax0).L (inL_c (x := 0) rfl) (inL_c (x := 5) rfl) hh q2) rfl rfl (Nat.le_of_ble_eq_true rfl) D_Md_isTape_0.2.2.1 rfl (fun f1 => ?_)
    exact z_ret (w := some (vI r3)) I (fun g => gk0 _ g f1) ⟨_, f1, rfl⟩ D_Md_isTape_0.2.2.2 rfl
  exact main _ hF (by rw [hG0])
set_option maxHeartbeats 4000000 in
set_option maxRecDepth 20000 in
theorem c_Md_judge {l : Launch} {τ : TP} {o : Int} {x1 : Int} {x2 : Int} {x3 : Int} {h : HP} {r : Int} (hw : wf τ) (ao : ok τ (4, 10) o) (ax1 : inR x1) (ax2 : inR x2) (ax3 : inR x3) (hh : hr τ h) (hF : m_Md_judge o x1 x2 x3 h = some r) : Ctr l y_Md_judge k_Md_judge 5 (Option.some FieldType.int) 2 46 τ (fun ad => [vR ad o, vI x1, vI x2, vI x3]) h (some (vI r)) h (inR r) := by
  refine ctr_of (by decide) hw hh (fun ad => Nat.le_of_ble_eq_true rfl) (fun ad K Y I hK => ?_)
  obtain ⟨G0, hG0⟩ : ∃ G : Int → Prop, G = fun x => x = r := ⟨_, rfl⟩
  have gk0 : ∀ (x : Int), G0 x → inR x → K (some (vI x)) h := fun x g q => by
    rw [hG0] at g
    cases g
    exact hK q
  have L32 : ∀ (s : Int), (inR s) → Z Y (m_Md_judge_L32 o x1 x2 x3 h s) G0 h 32 [(0, vR ad o), (1, vI x1), (2, vI x2), (3, vI x3), (4, vI s)] [] := by
    intro s hs
    refine z_loop (G := G0) (hO := fun s : Int => h) (lO := fun s : Int => [(0, vR ad o), (1, vI x1), (2, vI x2), (3, vI x3), (4, vI s)]) (Φ := fun s : Int => inR s) (fun G1 hin1_1 hout1 s hs => ?_) FUEL s hs
    obtain ⟨x4, rfl⟩ : ∃ z, z = s := ⟨_, rfl⟩
    have ax4 := hs
    have gk1 := fun (x : Int) (g : G1 (.inr (x))) (q : inR x) => gk0 x (hout1 _ g) q
    show Z Y (m_Md_judge_L32b o x1 x2 x3 h x4) G1 h 32 [(0, vR ad o), (1, vI x1), (2, vI x2), (3, vI x3), (4, vI x4)] []
    unfold m_Md_judge_L32b
    refine z_s I (s_iload (pc' := 34) 4 rfl D_Md_judge_1.1.1.2.1 rfl) ?_
    refine z_s I (s_aload_n (pc' := 35) 0 rfl D_Md_judge_1.1.1.2.2 rfl rfl) ?_
    refine z_getI (pc' := 38) (jI := 0) I g_Md_9 ao rfl rfl D_Md_judge_1.1.2.1.1 rfl (fun f1 => ?_)
    refine z_icmp_ge (tgt := 101) (pc' := 41) I ax4 f1 D_Md_judge_1.1.2.1.2 rfl rfl (fun c2 => ?_) (fun c2 => ?_)
    · refine z_s I (s_bipush (pc' := 103) D_Md_judge_3.2.2.2.1 rfl rfl) ?_
      exact z_ret (w := some (vI (-5))) I (fun g => gk1 _ g (inR_c (x := (-5)) rfl)) ⟨_, rfl⟩ D_Md_judge_3.2.2.2.2 rfl
    · refine z_s I (s_iload_n (pc' := 42) 3 rfl D_Md_judge_1.1.2.2.1 rfl rfl) ?_
      refine z_if_lt (tgt := 58) (pc' := 45) I ax3 D_Md_judge_1.1.2.2.2 rfl rfl (fun c3 => ?_) (fun c3 => ?_)
      · refine z_s I (s_bipush (pc' := 60) D_Md_judge_2.1.1.1.1 rfl rfl) ?_
        refine z_s I (s_iload (pc' := 62) 4 rfl D_Md_judge_2.1.1.1.2 rfl) ?_
        refine z_s I (s_iadd (pc' := 63) D_Md_judge_2.1.1.2.1 rfl) ?_
        exact z_ret (w := some (vI (w32 (100 + x4)))) I (fun g => gk1 _ g (inR_w32 _)) ⟨_, rfl⟩ D_Md_judge_2.1.1.2.2 rfl
      · refine z_s I (s_iload_n (pc' := 46) 3 rfl D_Md_judge_1.2.1.1.1 rfl rfl) ?_
        refine z_s I (s_aload_n (pc' := 47) 0 rfl D_Md_judge_1.2.1.1.2 rfl rfl) ?_
        refine z_getR (pc' := 50) (eI := o + 37) I g_Md_110 ao rfl (by omega) D_Md_judge_1.2.1.2.1 rfl ?_
        have k4 : ok τ (0, 6) (o + 37) := r_Md_tapeSize hw ao (by omega)
        refine z_s I (s_iload_n (pc' := 51) 2 rfl D_Md_judge_1.2.1.2.2 rfl rfl) ?_
        refine z_iald (pc' := 52) (nI := 6) I k4 ax2 rfl D_Md_judge_1.2.2.1.1 rfl (fun c5 f6 => ?_)
        refine z_s I (s_iload (pc' := 54) 4 rfl D_Md_judge_1.2.2.1.2 rfl) ?_
        refine z_s I (s_isub (pc' := 55) D_Md_judge_1.2.2.2.1 rfl) ?_
        refine z_icmp_lt (tgt := 64) (pc' := 58) I ax3 (inR_w32 _) D_Md_judge_1.2.2.2.2 rfl rfl (fun c7 => ?_) (fun c7 => ?_)
        · refine z_s I (s_aload_n (pc' := 65) 0 rfl D_Md_judge_2.1.2.1.1 rfl rfl) ?_
          refine z_getR (pc' := 68) (eI := o + 29) I g_Md_104 ao rfl (by omega) D_Md_judge_2.1.2.1.2 rfl ?_
          have k8 : ok τ (3, 3) (o + 29) := r_Md_tapes hw ao (by omega)
          refine z_s I (s_iload_n (pc' := 69) 2 rfl D_Md_judge_2.1.2.2.1 rfl rfl) ?_
          refine z_aald (pc' := 70) (eI := o + x2 + 30) I 6 1 1 k8 ax2 rfl rfl rfl (by omega) D_Md_judge_2.1.2.2.2 rfl (fun c9 => ?_)
          have k10 : ok τ (1, 60) (o + x2 + 30) := e_3 hw k8 c9 (by omega)
          refine z_s I (s_iload_n (pc' := 71) 3 rfl D_Md_judge_2.2.1.1.1 rfl rfl) ?_
          refine z_s I (s_iload (pc' := 73) 4 rfl D_Md_judge_2.2.1.1.2 rfl) ?_
          refine z_s I (s_iadd (pc' := 74) D_Md_judge_2.2.1.2.1 rfl) ?_
          refine z_lald (pc' := 75) (nI := 60) I k10 (inR_w32 _) rfl D_Md_judge_2.2.1.2.2 rfl (fun c11 f12 => ?_)
          refine z_s I (s_aload_n (pc' := 76) 0 rfl D_Md_judge_2.2.2.1.1 rfl rfl) ?_
          refine z_getR (pc' := 79) (eI := o + 4) I g_Md_25 ao rfl (by omega) D_Md_judge_2.2.2.1.2 rfl ?_
          have k13 : ok τ (0, 64) (o + 4) := r_Md_given hw ao (by omega)
          refine z_s I (s_bipush (pc' := 81) D_Md_judge_2.2.2.2.1 rfl rfl) ?_
          refine z_s I (s_iload_n (pc' := 82) 1 rfl D_Md_judge_2.2.2.2.2 rfl rfl) ?_
          refine z_s I (s_imul (pc' := 83) D_Md_judge_3.1.1.1 rfl) ?_
          refine z_s I (s_iload (pc' := 85) 4 rfl D_Md_judge_3.1.1.2.1 rfl) ?_
          refine z_s I (s_iadd (pc' := 86) D_Md_judge_3.1.1.2.2 rfl) ?_
          refine z_iald (pc' := 87) (nI := 64) I k13 (inR_w32 _) rfl D_Md_judge_3.1.2.1 rfl (fun c14 f15 => ?_)
          refine z_s I (s_i2l (pc' := 88) f15 D_Md_judge_3.1.2.2.1 rfl) ?_
          refine z_s I (s_lcmp (pc' := 89) f12 (f15).L D_Md_judge_3.1.2.2.2 rfl) ?_
          refine z_if_eq (tgt := 95) (pc' := 92) I (inR_lCmp _ _) D_Md_judge_3.2.1.1 rfl rfl (fun c16 => ?_) (fun c16 => ?_)
          · refine z_s I (s_iinc (pc' := 98) (lv' := [(4, vI (w32 (x4 + 1))), (0, vR ad o), (1, vI x1), (2, vI x2), (3, vI x3)]) (n := 4) rfl D_Md_judge_3.2.2.1.1 (by decide) rfl rfl) ?_
            refine z_s I (s_goto (tgt := 32) D_Md_judge_3.2.2.1.2 rfl) ?_
            refine z_s I (s_lv (lv' := [(0, vR ad o), (1, vI x1), (2, vI x2), (3, vI x3), (4, vI (w32 (x4 + 1)))]) [1, 2, 3, 4, 0] rfl) ?_
            exact z_end (fun g => hin1_1 _ g (inR_w32 _))
          · refine z_s I (s_iload (pc' := 94) 4 rfl D_Md_judge_3.2.1.2.1 rfl) ?_
            exact z_ret (w := some (vI x4)) I (fun g => gk1 _ g ax4) ⟨_, rfl⟩ D_Md_judge_3.2.1.2.2 rfl
        · refine z_s I (s_bipush (pc' := 60) D_Md_judge_2.1.1.1.1 rfl rfl) ?_
          refine z_s I (s_iload (pc' := 62) 4 rfl D_Md_judge_2.1.1.1.2 rfl) ?_
          refine z_s I (s_iadd (pc' := 63) D_Md_judge_2.1.1.2.1 rfl) ?_
          exact z_ret (w := some (vI (w32 (100 + x4)))) I (fun g => gk1 _ g (inR_w32 _)) ⟨_, rfl⟩ D_Md_judge_2.1.1.2.2 rfl
  have main : Z Y (m_Md_judge o x1 x2 x3 h) G0 h 0 [(0, vR ad o), (1, vI x1), (2, vI x2), (3, vI x3)] [] := by
    unfold m_Md_judge
    refine z_s I (s_aload_n (pc' := 1) 0 rfl D_Md_judge_0.1.1.1.1 rfl rfl) ?_
    refine z_s I (s_iload_n (pc' := 2) 1 rfl D_Md_judge_0.1.1.1.2 rfl rfl) ?_
    refine z_b1 (fun r19 q18 => ?_)
    refine z_callV (pc' := 5) I mv_Md_isOne ml_Md_126 (fun ad => [vI x1]) ⟨Nat.le_of_ble_eq_true rfl, Nat.le_of_ble_eq_true rfl⟩ ao (fun hh => c_Md_isOne hw ao ax1 hh q18) rfl rfl (Nat.le_of_ble_eq_true rfl) D_Md_judge_0.1.1.2.1 rfl (fun f17 => ?_)
    refine z_if_eq (tgt := 15) (pc' := 8) I (b01.R f17) D_Md_judge_0.1.1.2.2 rfl rfl (fun c20 => ?_) (fun c20 => ?_)
    · refine z_s I (s_iconst (pc' := 16) D_Md_judge_0.1.2.2.2 rfl) ?_
      exact z_ret (w := some (vI (-1))) I (fun g => gk0 _ g (inR_c (x := (-1)) rfl)) ⟨_, rfl⟩ D_Md_judge_0.2.1.1.1 rfl
    · refine z_s I (s_iload_n (pc' := 9) 2 rfl D_Md_judge_0.1.2.1.1 rfl rfl) ?_
      refine z_b1 (fun r23 q22 => ?_)
      refine z_callS (pc' := 12) I mv_Md_isTape ml_Md_380 (fun ad => [vI x2]) ⟨Nat.le_of_ble_eq_true rfl, Nat.le_of_ble_eq_true rfl⟩ (fun hh => c_Md_isTape hw ax2 hh q22) rfl rfl (Nat.le_of_ble_eq_true rfl) D_Md_judge_0.1.2.1.2 rfl (fun f21 => ?_)
      refine z_if_ne (tgt := 17) (pc' := 15) I (b01.R f21) D_Md_judge_0.1.2.2.1 rfl rfl (fun c24 => ?_) (fun c24 => ?_)
      · refine z_s I (s_aload_n (pc' := 18) 0 rfl D_Md_judge_0.2.1.1.2 rfl rfl) ?_
        refine z_getR (pc' := 21) (eI := o + 36) I g_Md_107 ao rfl (by omega) D_Md_judge_0.2.1.2.1 rfl ?_
        have k25 : ok τ (0, 6) (o + 36) := r_Md_tapeSort hw ao (by omega)
        refine z_s I (s_iload_n (pc' := 22) 2 rfl D_Md_judge_0.2.1.2.2 rfl rfl) ?_
        refine z_iald (pc' := 23) (nI := 6) I k25 ax2 rfl D_Md_judge_0.2.2.1.1 rfl (fun c26 f27 => ?_)
        refine z_if_le (tgt := 29) (pc' := 26) I f27 D_Md_judge_0.2.2.1.2 rfl rfl (fun c28 => ?_) (fun c28 => ?_)
        · refine z_s I (s_iconst (pc' := 30) D_Md_judge_1.1.1.1.1 rfl) ?_
          refine z_s I (s_istore (pc' := 32) (lv' := [(4, vI 0), (0, vR ad o), (1, vI x1), (2, vI x2), (3, vI x3)]) D_Md_judge_1.1.1.1.2 (by decide) rfl rfl) ?_
          refine z_s I (s_lv (lv' := [(0, vR ad o), (1, vI x1), (2, vI x2), (3, vI x3), (4, vI 0)]) [1, 2, 3, 4, 0] rfl) ?_
          exact L32 _ (b01.R bz0)
        · refine z_s I (s_bipush (pc' := 28) D_Md_judge_0.2.2.2.1 rfl rfl) ?_
          exact z_ret (w := some (vI (-12))) I (fun g => gk0 _ g (inR_c (x := (-12)) rfl)) ⟨_, rfl⟩ D_Md_judge_0.2.2.2.2 rfl
      · refine z_s I (s_iconst (pc' := 16) D_Md_judge_0.1.2.2.2 rfl) ?_
        exact z_ret (w := some (vI (-1))) I (fun g => gk0 _ g (inR_c (x := (-1)) rfl)) ⟨_, rfl⟩ D_Md_judge_0.2.1.1.1 rfl
  exact main _ hF (by rw [hG0])
set_option maxHeartbeats 4000000 in
set_option maxRecDepth 20000 in
theorem c_Md_seatedOnes {l : Launch} {τ : TP} {o : Int} {h : HP} {r : Int} (hw : wf τ) (ao : ok τ (4, 10) o) (hh : hr τ h) (hF : m_Md_seatedOnes o h = some r) : Ctr l y_Md_seatedOnes k_Md_seatedOnes 3 (Option.some FieldType.int) 0 0 τ (fun ad => [vR ad o]) h (some (vI r)) h (inR r) := by
  refine ctr_of (by decide) hw hh (fun ad => Nat.le_of_ble_eq_true rfl) (fun ad K Y I hK => ?_)
  obtain ⟨G0, hG0⟩ : ∃ G : Int → Prop, G = fun x => x = r := ⟨_, rfl⟩
  have gk0 : ∀ (x : Int), G0 x → inR x → K (some (vI x)) h := fun x g q => by
    rw [hG0] at g
    cases g
    exact hK q
  have L4 : ∀ (s : Int × Int), (inR (s.1) ∧ inR (s.2)) → Z Y (m_Md_seatedOnes_L4 o h s) G0 h 4 [(0, vR ad o), (1, vI (s.1)), (2, vI (s.2))] [] := by
    intro s hs
    refine z_loop (G := G0) (hO := fun s : Int × Int => h) (lO := fun s : Int × Int => [(0, vR ad o), (1, vI (s.1)), (2, vI (s.2))]) (Φ := fun s : Int × Int => inR (s.1) ∧ inR (s.2)) (fun G1 hin1_1 hout1 s hs => ?_) FUEL s hs
    obtain ⟨x1, x2⟩ := s
    obtain ⟨ax1, ax2⟩ := hs
    have gk1 := fun (x : Int) (g : G1 (.inr (x))) (q : inR x) => gk0 x (hout1 _ g) q
    show Z Y (m_Md_seatedOnes_L4b o h x1 x2) G1 h 4 [(0, vR ad o), (1, vI x1), (2, vI x2)] []
    unfold m_Md_seatedOnes_L4b
    refine z_s I (s_iload_n (pc' := 5) 2 rfl D_Md_seatedOnes_0.1.2.1.1 rfl rfl) ?_
    refine z_s I (s_aload_n (pc' := 6) 0 rfl D_Md_seatedOnes_0.1.2.1.2 rfl rfl) ?_
    refine z_getI (pc' := 9) (jI := 1) I g_Md_123 ao rfl rfl D_Md_seatedOnes_0.1.2.2.1 rfl (fun f1 => ?_)
    refine z_icmp_ge (tgt := 35) (pc' := 12) I ax2 f1 D_Md_seatedOnes_0.1.2.2.2 rfl rfl (fun c2 => ?_) (fun c2 => ?_)
    · refine z_s I (s_iload_n (pc' := 36) 1 rfl D_Md_seatedOnes_1.2.2.1 rfl rfl) ?_
      exact z_ret (w := some (vI x1)) I (fun g => gk1 _ g ax1) ⟨_, rfl⟩ D_Md_seatedOnes_1.2.2.2 rfl
    · refine z_s I (s_iload_n (pc' := 13) 1 rfl D_Md_seatedOnes_0.2.1.1.1 rfl rfl) ?_
      refine z_s I (s_aload_n (pc' := 14) 0 rfl D_Md_seatedOnes_0.2.1.1.2 rfl rfl) ?_
      refine z_getR (pc' := 17) (eI := o + 5) I g_Md_28 ao rfl (by omega) D_Md_seatedOnes_0.2.1.2.1 rfl ?_
      have k3 : ok τ (0, 8) (o + 5) := r_Md_row hw ao (by omega)
      refine z_s I (s_iload_n (pc' := 18) 2 rfl D_Md_seatedOnes_0.2.1.2.2 rfl rfl) ?_
      refine z_iald (pc' := 19) (nI := 8) I k3 ax2 rfl D_Md_seatedOnes_0.2.2.1.1 rfl (fun c4 f5 => ?_)
      refine z_if_lt (tgt := 26) (pc' := 22) I f5 D_Md_seatedOnes_0.2.2.1.2 rfl rfl (fun c6 => ?_) (fun c6 => ?_)
      · refine z_s I (s_iconst (pc' := 27) D_Md_seatedOnes_1.1.1 rfl) ?_
        refine z_s I (s_iadd (pc' := 28) D_Md_seatedOnes_1.1.2.1 rfl) ?_
        refine z_bI (inR_w32 _) (fun v7 e8 f9 => ?_)
        refine z_s I (s_istore_n (pc' := 29) (lv' := [(1, vI v7), (0, vR ad o), (2, vI x2)]) D_Md_seatedOnes_1.1.2.2 rfl (by decide) rfl rfl) ?_
        refine z_s I (s_iinc (pc' := 32) (lv' := [(2, vI (w32 (x2 + 1))), (1, vI v7), (0, vR ad o)]) (n := 2) rfl D_Md_seatedOnes_1.2.1.1 (by decide) rfl rfl) ?_
        refine z_s I (s_goto (tgt := 4) D_Md_seatedOnes_1.2.1.2 rfl) ?_
        refine z_s I (s_lv (lv' := [(0, vR ad o), (1, vI v7), (2, vI (w32 (x2 + 1)))]) [2, 1, 0] rfl) ?_
        exact z_end (fun g => hin1_1 _ g ⟨f9, (inR_w32 _)⟩)
      · refine z_s I (s_iconst (pc' := 23) D_Md_seatedOnes_0.2.2.2.1 rfl) ?_
        refine z_s I (s_goto (tgt := 27) D_Md_seatedOnes_0.2.2.2.2 rfl) ?_
        refine z_s I (s_iadd (pc' := 28) D_Md_seatedOnes_1.1.2.1 rfl) ?_
        refine z_bI (inR_w32 _) (fun v10 e11 f12 => ?_)
        refine z_s I (s_istore_n (pc' := 29) (lv' := [(1, vI v10), (0, vR ad o), (2, vI x2)]) D_Md_seatedOnes_1.1.2.2 rfl (by decide) rfl rfl) ?_
        refine z_s I (s_iinc (pc' := 32) (lv' := [(2, vI (w32 (x2 + 1))), (1, vI v10), (0, vR ad o)]) (n := 2) rfl D_Md_seatedOnes_1.2.1.1 (by decide) rfl rfl) ?_
        refine z_s I (s_goto (tgt := 4) D_Md_seatedOnes_1.2.1.2 rfl) ?_
        refine z_s I (s_lv (lv' := [(0, vR ad o), (1, vI v10), (2, vI (w32 (x2 + 1)))]) [2, 1, 0] rfl) ?_
        exact z_end (fun g => hin1_1 _ g ⟨f12, (inR_w32 _)⟩)
  have main : Z Y (m_Md_seatedOnes o h) G0 h 0 [(0, vR ad o)] [] := by
    unfold m_Md_seatedOnes
    refine z_s I (s_iconst (pc' := 1) D_Md_seatedOnes_0.1.1.1.1 rfl) ?_
    refine z_s I (s_istore_n (pc' := 2) (lv' := [(1, vI 0), (0, vR ad o)]) D_Md_seatedOnes_0.1.1.1.2 rfl (by decide) rfl rfl) ?_
    refine z_s I (s_iconst (pc' := 3) D_Md_seatedOnes_0.1.1.2.1 rfl) ?_
    refine z_s I (s_istore_n (pc' := 4) (lv' := [(2, vI 0), (1, vI 0), (0, vR ad o)]) D_Md_seatedOnes_0.1.1.2.2 rfl (by decide) rfl rfl) ?_
    refine z_s I (s_lv (lv' := [(0, vR ad o), (1, vI 0), (2, vI 0)]) [2, 1, 0] rfl) ?_
    exact L4 _ ⟨(b01.R bz0), (b01.R bz0)⟩
  exact main _ hF (by rw [hG0])
set_option maxHeartbeats 4000000 in
set_option maxRecDepth 20000 in
theorem c_Md_count {l : Launch} {τ : TP} {o : Int} {x1 : Int} {h : HP} {r : Int} (hw : wf τ) (ao : ok τ (4, 10) o) (ax1 : inR x1) (hh : hr τ h) (hF : m_Md_count o x1 h = some r) : Ctr l y_Md_count k_Md_count 2 (Option.some FieldType.int) 1 25 τ (fun ad => [vR ad o, vI x1]) h (some (vI r)) h (inR r) := by
  refine ctr_of (by decide) hw hh (fun ad => Nat.le_of_ble_eq_true rfl) (fun ad K Y I hK => ?_)
  obtain ⟨G0, hG0⟩ : ∃ G : Int → Prop, G = fun x => x = r := ⟨_, rfl⟩
  have gk0 : ∀ (x : Int), G0 x → inR x → K (some (vI x)) h := fun x g q => by
    rw [hG0] at g
    cases g
    exact hK q
  have main : Z Y (m_Md_count o x1 h) G0 h 0 [(0, vR ad o), (1, vI x1)] [] := by
    unfold m_Md_count
    refine z_s I (s_iload_n (pc' := 1) 1 rfl D_Md_count_0.1.1.1.1 rfl rfl) ?_
    refine z_tin (tgt := 40) I ax1 D_Md_count_0.1.1.1.2 0 ⟨by decide, by decide⟩ rfl rfl (fun c1 => ?_) (fun c1 => ?_)
    · refine z_s I (s_aload_n (pc' := 41) 0 rfl D_Md_count_0.1.1.2.1 rfl rfl) ?_
      refine z_getI (pc' := 44) (jI := 0) I g_Md_9 ao rfl rfl D_Md_count_0.1.1.2.2 rfl (fun f2 => ?_)
      exact z_ret (w := some (vI (h o 0))) I (fun g => gk0 _ g f2) ⟨_, rfl⟩ D_Md_count_0.1.2.1.1 rfl
    · skip
      refine z_tin (tgt := 45) I ax1 D_Md_count_0.1.1.1.2 1 ⟨by decide, by decide⟩ rfl rfl (fun c3 => ?_) (fun c3 => ?_)
      · refine z_s I (s_aload_n (pc' := 46) 0 rfl D_Md_count_0.1.2.1.2 rfl rfl) ?_
        refine z_getI (pc' := 49) (jI := 1) I g_Md_123 ao rfl rfl D_Md_count_0.1.2.2.1 rfl (fun f4 => ?_)
        exact z_ret (w := some (vI (h o 1))) I (fun g => gk0 _ g f4) ⟨_, rfl⟩ D_Md_count_0.1.2.2.2 rfl
      · skip
        refine z_tin (tgt := 50) I ax1 D_Md_count_0.1.1.1.2 2 ⟨by decide, by decide⟩ rfl rfl (fun c5 => ?_) (fun c5 => ?_)
        · refine z_s I (s_aload_n (pc' := 51) 0 rfl D_Md_count_0.2.1.1.1 rfl rfl) ?_
          refine z_b1 (fun r8 q7 => ?_)
          refine z_callV (pc' := 54) I mv_Md_seatedOnes ml_Md_383 (fun ad => []) ⟨Nat.le_of_ble_eq_true rfl, Nat.le_of_ble_eq_true rfl⟩ ao (fun hh => c_Md_seatedOnes hw ao hh q7) rfl rfl (Nat.le_of_ble_eq_true rfl) D_Md_count_0.2.1.1.2 rfl (fun f6 => ?_)
          exact z_ret (w := some (vI r8)) I (fun g => gk0 _ g f6) ⟨_, rfl⟩ D_Md_count_0.2.1.2.1 rfl
        · skip
          refine z_tin (tgt := 55) I ax1 D_Md_count_0.1.1.1.2 3 ⟨by decide, by decide⟩ rfl rfl (fun c9 => ?_) (fun c9 => ?_)
          · refine z_s I (s_aload_n (pc' := 56) 0 rfl D_Md_count_0.2.1.2.2 rfl rfl) ?_
            refine z_getI (pc' := 59) (jI := 15) I g_Md_130 ao rfl rfl D_Md_count_0.2.2.1.1 rfl (fun f10 => ?_)
            exact z_ret (w := some (vI (h o 15))) I (fun g => gk0 _ g f10) ⟨_, rfl⟩ D_Md_count_0.2.2.1.2 rfl
          · skip
            refine z_tin (tgt := 60) I ax1 D_Md_count_0.1.1.1.2 4 ⟨by decide, by decide⟩ rfl rfl (fun c11 => ?_) (fun c11 => ?_)
            · refine z_s I (s_aload_n (pc' := 61) 0 rfl D_Md_count_0.2.2.2.1 rfl rfl) ?_
              refine z_getI (pc' := 64) (jI := 16) I g_Md_133 ao rfl rfl D_Md_count_0.2.2.2.2 rfl (fun f12 => ?_)
              exact z_ret (w := some (vI (h o 16))) I (fun g => gk0 _ g f12) ⟨_, rfl⟩ D_Md_count_1.1.1.1.1 rfl
            · skip
              refine z_tin (tgt := 65) I ax1 D_Md_count_0.1.1.1.2 5 ⟨by decide, by decide⟩ rfl rfl (fun c13 => ?_) (fun c13 => ?_)
              · refine z_s I (s_aload_n (pc' := 66) 0 rfl D_Md_count_1.1.1.1.2 rfl rfl) ?_
                refine z_getI (pc' := 69) (jI := 18) I g_Md_175 ao rfl rfl D_Md_count_1.1.1.2.1 rfl (fun f14 => ?_)
                exact z_ret (w := some (vI (h o 18))) I (fun g => gk0 _ g f14) ⟨_, rfl⟩ D_Md_count_1.1.1.2.2 rfl
              · skip
                refine z_tout (tgt := 70) I ax1 D_Md_count_0.1.1.1.2 (by omega) rfl ?_
                refine z_s I (s_iload_n (pc' := 71) 1 rfl D_Md_count_1.1.2.1.1 rfl rfl) ?_
                refine z_s I (s_i2l (pc' := 72) ax1 D_Md_count_1.1.2.1.2 rfl) ?_
                refine z_ldc2 (pc' := 75) (x := 6) I cl_Md_367 (by decide +kernel) D_Md_count_1.1.2.2.1 rfl ?_
                refine z_ldc2 (pc' := 78) (x := 11) I cl_Md_386 (by decide +kernel) D_Md_count_1.1.2.2.2 rfl ?_
                refine z_b1 (fun r17 q16 => ?_)
                refine z_callS (pc' := 81) I mv_Md_in ml_Md_119 (fun ad => [vL x1, vL 6, vL 11]) ⟨Nat.le_of_ble_eq_true rfl, Nat.le_of_ble_eq_true rfl⟩ (fun hh => c_Md_in hw (ax1).L (inL_c (x := 6) rfl) (inL_c (x := 11) rfl) hh q16) rfl rfl (Nat.le_of_ble_eq_true rfl) D_Md_count_1.2.1.1.1 rfl (fun f15 => ?_)
                refine z_if_eq (tgt := 96) (pc' := 84) I (b01.R f15) D_Md_count_1.2.1.1.2 rfl rfl (fun c18 => ?_) (fun c18 => ?_)
                · refine z_s I (s_bipush (pc' := 98) D_Md_count_2.2.1 rfl rfl) ?_
                  exact z_ret (w := some (vI (-2))) I (fun g => gk0 _ g (inR_c (x := (-2)) rfl)) ⟨_, rfl⟩ D_Md_count_2.2.2 rfl
                · refine z_s I (s_aload_n (pc' := 85) 0 rfl D_Md_count_1.2.1.2.1 rfl rfl) ?_
                  refine z_getR (pc' := 88) (eI := o + 7) I g_Md_34 ao rfl (by omega) D_Md_count_1.2.1.2.2 rfl ?_
                  have k19 : ok τ (0, 6) (o + 7) := r_Md_used hw ao (by omega)
                  refine z_s I (s_iload_n (pc' := 89) 1 rfl D_Md_count_1.2.2.1.1 rfl rfl) ?_
                  refine z_s I (s_bipush (pc' := 91) D_Md_count_1.2.2.1.2 rfl rfl) ?_
                  refine z_s I (s_isub (pc' := 92) D_Md_count_1.2.2.2.1 rfl) ?_
                  refine z_iald (pc' := 93) (nI := 6) I k19 (inR_w32 _) rfl D_Md_count_1.2.2.2.2 rfl (fun c20 f21 => ?_)
                  refine z_s I (s_goto (tgt := 98) D_Md_count_2.1 rfl) ?_
                  exact z_ret (w := some (vI (h (o + 7) (w32 (x1 - 6))))) I (fun g => gk0 _ g f21) ⟨_, rfl⟩ D_Md_count_2.2.2 rfl
  exact main _ hF (by rw [hG0])
set_option maxHeartbeats 4000000 in
set_option maxRecDepth 20000 in
theorem c_Md_tape {l : Launch} {τ : TP} {o : Int} {x1 : Int} {x2 : Int} {x3 : Int} {h : HP} {r : Int} {h' : HP} (hw : wf τ) (ao : ok τ (4, 10) o) (ax1 : inR x1) (ax2 : inR x2) (ax3 : inR x3) (hh : hr τ h) (hF : m_Md_tape o x1 x2 x3 h = some (r, h')) : Ctr l y_Md_tape k_Md_tape 5 (Option.some FieldType.int) 2 45 τ (fun ad => [vR ad o, vI x1, vI x2, vI x3]) h (some (vI r)) h' (inR r) := by
  refine ctr_of (by decide) hw hh (fun ad => Nat.le_of_ble_eq_true rfl) (fun ad K Y I hK => ?_)
  obtain ⟨G0, hG0⟩ : ∃ G : Int × HP → Prop, G = fun x => x = (r, h') := ⟨_, rfl⟩
  have gk0 : ∀ (x : Int) (y : HP), G0 (x, y) → inR x → K (some (vI x)) y := fun x y g q => by
    rw [hG0] at g
    cases g
    exact hK q
  have L72 : ∀ (s : Int × HP), (inR (s.1)) → Z Y (m_Md_tape_L72 o x1 s) G0 (s.2) 72 [(0, vR ad o), (1, vI x1), (4, vI (s.1))] [] := by
    intro s hs
    refine z_loop (G := G0) (hO := fun s : Int × HP => s.2) (lO := fun s : Int × HP => [(0, vR ad o), (1, vI x1), (4, vI (s.1))]) (Φ := fun s : Int × HP => inR (s.1)) (fun G1 hin1_1 hout1 s hs => ?_) FUEL s hs
    obtain ⟨x4, h⟩ := s
    have ax4 := hs
    have gk1 := fun (x : Int) (y : HP) (g : G1 (.inr ((x, y)))) (q : inR x) => gk0 x y (hout1 _ g) q
    show Z Y (m_Md_tape_L72b o x1 x4 h) G1 h 72 [(0, vR ad o), (1, vI x1), (4, vI x4)] []
    unfold m_Md_tape_L72b
    refine z_s I (s_iload (pc' := 74) 2 rfl D_Md_tape_2.2.1.1.1 rfl) ?_
    refine z_s I (s_bipush (pc' := 76) D_Md_tape_2.2.1.1.2 rfl rfl) ?_
    refine z_icmp_ge (tgt := 95) (pc' := 79) I ax4 (inR_c (x := 60) rfl) D_Md_tape_2.2.1.2.1 rfl rfl (fun c1 => ?_) (fun c1 => ?_)
    · refine z_s I (s_iconst (pc' := 96) D_Md_tape_3.2.2.1 rfl) ?_
      exact z_ret (w := some (vI 1)) I (fun g => gk1 _ _ g (b01.R bz1)) ⟨_, rfl⟩ D_Md_tape_3.2.2.2 rfl
    · refine z_s I (s_aload_n (pc' := 80) 0 rfl D_Md_tape_2.2.1.2.2 rfl rfl) ?_
      refine z_getR (pc' := 83) (eI := o + 29) I g_Md_104 ao rfl (by omega) D_Md_tape_2.2.2.1.1 rfl ?_
      have k2 : ok τ (3, 3) (o + 29) := r_Md_tapes hw ao (by omega)
      refine z_s I (s_iload_n (pc' := 84) 1 rfl D_Md_tape_2.2.2.1.2 rfl rfl) ?_
      refine z_aald (pc' := 85) (eI := o + x1 + 30) I 6 1 1 k2 ax1 rfl rfl rfl (by omega) D_Md_tape_2.2.2.2.1 rfl (fun c3 => ?_)
      have k4 : ok τ (1, 60) (o + x1 + 30) := e_3 hw k2 c3 (by omega)
      refine z_s I (s_iload (pc' := 87) 2 rfl D_Md_tape_2.2.2.2.2 rfl) ?_
      refine z_s I (s_lconst (pc' := 88) (x := 0) D_Md_tape_3.1.1 rfl rfl) ?_
      refine z_last (pc' := 89) (nI := 60) I k4 ax4 (inL_c (x := 0) rfl) rfl D_Md_tape_3.1.2.1 rfl (fun c5 => ?_)
      refine z_bH (fun h6 e7 => ?_)
      refine z_s I (s_iinc (pc' := 92) (lv' := [(4, vI (w32 (x4 + 1))), (0, vR ad o), (1, vI x1)]) (n := 2) rfl D_Md_tape_3.1.2.2 (by decide) rfl rfl) ?_
      refine z_s I (s_goto (tgt := 72) D_Md_tape_3.2.1 rfl) ?_
      refine z_s I (s_lv (lv' := [(0, vR ad o), (1, vI x1), (4, vI (w32 (x4 + 1)))]) [1, 2, 0] rfl) ?_
      exact z_end (fun g => hin1_1 _ g (inR_w32 _))
  have J68 : ∀ (s0 : Int) (as0 : ok τ (0, 6) s0) (s1 : Int) (as1 : inR s1) (s2 : Int) (as2 : inR s2) (h : HP), Z Y (m_Md_tape_J68 o x1 s0 s1 s2 h) G0 h 68 [(0, vR ad o), (1, vI x1)] [vI s2, vI s1, vR ad s0] := by
    intro s0 as0 s1 as1 s2 as2 h
    unfold m_Md_tape_J68
    refine z_iast (pc' := 69) (nI := 6) I as0 as1 as2 rfl D_Md_tape_2.1.2.1.2 rfl (fun c8 => ?_)
    refine z_bH (fun h9 e10 => ?_)
    refine z_s I (s_iconst (pc' := 70) D_Md_tape_2.1.2.2.1 rfl) ?_
    refine z_s I (s_istore (pc' := 72) (lv' := [(4, vI 0), (0, vR ad o), (1, vI x1)]) D_Md_tape_2.1.2.2.2 (by decide) rfl rfl) ?_
    refine z_s I (s_lv (lv' := [(0, vR ad o), (1, vI x1), (4, vI 0)]) [1, 2, 0] rfl) ?_
    exact L72 _ (b01.R bz0)
  have J47 : ∀ (h : HP), Z Y (m_Md_tape_J47 o x1 x2 x3 h) G0 h 47 [(0, vR ad o), (1, vI x1), (2, vI x2), (3, vI x3)] [] := by
    intro h
    unfold m_Md_tape_J47
    refine z_s I (s_aload_n (pc' := 48) 0 rfl D_Md_tape_1.2.1.1.1 rfl rfl) ?_
    refine z_getR (pc' := 51) (eI := o + 36) I g_Md_107 ao rfl (by omega) D_Md_tape_1.2.1.1.2 rfl ?_
    have k11 : ok τ (0, 6) (o + 36) := r_Md_tapeSort hw ao (by omega)
    refine z_s I (s_iload_n (pc' := 52) 1 rfl D_Md_tape_1.2.1.2.1 rfl rfl) ?_
    refine z_s I (s_iload_n (pc' := 53) 2 rfl D_Md_tape_1.2.1.2.2 rfl rfl) ?_
    refine z_iast (pc' := 54) (nI := 6) I k11 ax1 ax2 rfl D_Md_tape_1.2.2.1.1 rfl (fun c12 => ?_)
    refine z_bH (fun h13 e14 => ?_)
    refine z_s I (s_aload_n (pc' := 55) 0 rfl D_Md_tape_1.2.2.1.2 rfl rfl) ?_
    refine z_getR (pc' := 58) (eI := o + 37) I g_Md_110 ao rfl (by omega) D_Md_tape_1.2.2.2.1 rfl ?_
    have k15 : ok τ (0, 6) (o + 37) := r_Md_tapeSize hw ao (by omega)
    refine z_s I (s_iload_n (pc' := 59) 1 rfl D_Md_tape_1.2.2.2.2 rfl rfl) ?_
    refine z_s I (s_iload_n (pc' := 60) 2 rfl D_Md_tape_2.1.1.1.1 rfl rfl) ?_
    refine z_if_ge (tgt := 67) (pc' := 63) I ax2 D_Md_tape_2.1.1.1.2 rfl rfl (fun c16 => ?_) (fun c16 => ?_)
    · refine z_s I (s_iload_n (pc' := 68) 3 rfl D_Md_tape_2.1.2.1.1 rfl rfl) ?_
      refine z_s I (s_lv (lv' := [(0, vR ad o), (1, vI x1)]) [0, 1] rfl) ?_
      exact J68 _ k15 _ ax1 _ ax3 _
    · refine z_s I (s_iconst (pc' := 64) D_Md_tape_2.1.1.2.1 rfl) ?_
      refine z_s I (s_goto (tgt := 68) D_Md_tape_2.1.1.2.2 rfl) ?_
      refine z_s I (s_lv (lv' := [(0, vR ad o), (1, vI x1)]) [0, 1] rfl) ?_
      exact J68 _ k15 _ ax1 _ (b01.R bz0) _
  have J36 : ∀ (h : HP), Z Y (m_Md_tape_J36 o x1 x2 x3 h) G0 h 36 [(0, vR ad o), (1, vI x1), (2, vI x2), (3, vI x3)] [] := by
    intro h
    unfold m_Md_tape_J36
    refine z_s I (s_iload_n (pc' := 37) 2 rfl D_Md_tape_1.1.1.2.1 rfl rfl) ?_
    refine z_if_lt (tgt := 47) (pc' := 40) I ax2 D_Md_tape_1.1.1.2.2 rfl rfl (fun c17 => ?_) (fun c17 => ?_)
    · exact J47 _
    · refine z_s I (s_iload_n (pc' := 41) 3 rfl D_Md_tape_1.1.2.1.1 rfl rfl) ?_
      refine z_if_ge (tgt := 47) (pc' := 44) I ax3 D_Md_tape_1.1.2.1.2 rfl rfl (fun c18 => ?_) (fun c18 => ?_)
      · exact J47 _
      · refine z_s I (s_bipush (pc' := 46) D_Md_tape_1.1.2.2.1 rfl rfl) ?_
        exact z_ret (w := some (vI (-14))) I (fun g => gk0 _ _ g (inR_c (x := (-14)) rfl)) ⟨_, rfl⟩ D_Md_tape_1.1.2.2.2 rfl
  have main : Z Y (m_Md_tape o x1 x2 x3 h) G0 h 0 [(0, vR ad o), (1, vI x1), (2, vI x2), (3, vI x3)] [] := by
    unfold m_Md_tape
    refine z_s I (s_iload_n (pc' := 1) 1 rfl D_Md_tape_0.1.1.1.1 rfl rfl) ?_
    refine z_b1 (fun r21 q20 => ?_)
    refine z_callS (pc' := 4) I mv_Md_isTape ml_Md_380 (fun ad => [vI x1]) ⟨Nat.le_of_ble_eq_true rfl, Nat.le_of_ble_eq_true rfl⟩ (fun hh => c_Md_isTape hw ax1 hh q20) rfl rfl (Nat.le_of_ble_eq_true rfl) D_Md_tape_0.1.1.1.2 rfl (fun f19 => ?_)
    refine z_if_ne (tgt := 9) (pc' := 7) I (b01.R f19) D_Md_tape_0.1.1.2.1 rfl rfl (fun c22 => ?_) (fun c22 => ?_)
    · refine z_s I (s_iload_n (pc' := 10) 2 rfl D_Md_tape_0.1.2.1.2 rfl rfl) ?_
      refine z_s I (s_i2l (pc' := 11) ax2 D_Md_tape_0.1.2.2.1 rfl) ?_
      refine z_ldc2 (pc' := 14) (x := (-1)) I cl_Md_165 (by decide +kernel) D_Md_tape_0.1.2.2.2 rfl ?_
      refine z_ldc2 (pc' := 17) (x := 4) I cl_Md_205 (by decide +kernel) D_Md_tape_0.2.1.1.1 rfl ?_
      refine z_b1 (fun r25 q24 => ?_)
      refine z_callS (pc' := 20) I mv_Md_in ml_Md_119 (fun ad => [vL x2, vL (-1), vL 4]) ⟨Nat.le_of_ble_eq_true rfl, Nat.le_of_ble_eq_true rfl⟩ (fun hh => c_Md_in hw (ax2).L (inL_c (x := (-1)) rfl) (inL_c (x := 4) rfl) hh q24) rfl rfl (Nat.le_of_ble_eq_true rfl) D_Md_tape_0.2.1.1.2 rfl (fun f23 => ?_)
      refine z_if_eq (tgt := 33) (pc' := 23) I (b01.R f23) D_Md_tape_0.2.1.2.1 rfl rfl (fun c26 => ?_) (fun c26 => ?_)
      · refine z_s I (s_bipush (pc' := 35) D_Md_tape_1.1.1.1.1 rfl rfl) ?_
        exact z_ret (w := some (vI (-2))) I (fun g => gk0 _ _ g (inR_c (x := (-2)) rfl)) ⟨_, rfl⟩ D_Md_tape_1.1.1.1.2 rfl
      · refine z_s I (s_iload_n (pc' := 24) 2 rfl D_Md_tape_0.2.1.2.2 rfl rfl) ?_
        refine z_if_lt (tgt := 36) (pc' := 27) I ax2 D_Md_tape_0.2.2.1.1 rfl rfl (fun c27 => ?_) (fun c27 => ?_)
        · exact J36 _
        · refine z_s I (s_iload_n (pc' := 28) 3 rfl D_Md_tape_0.2.2.1.2 rfl rfl) ?_
          refine z_s I (s_bipush (pc' := 30) D_Md_tape_0.2.2.2.1 rfl rfl) ?_
          refine z_icmp_le (tgt := 36) (pc' := 33) I ax3 (inR_c (x := 60) rfl) D_Md_tape_0.2.2.2.2 rfl rfl (fun c28 => ?_) (fun c28 => ?_)
          · exact J36 _
          · refine z_s I (s_bipush (pc' := 35) D_Md_tape_1.1.1.1.1 rfl rfl) ?_
            exact z_ret (w := some (vI (-2))) I (fun g => gk0 _ _ g (inR_c (x := (-2)) rfl)) ⟨_, rfl⟩ D_Md_tape_1.1.1.1.2 rfl
    · refine z_s I (s_iconst (pc' := 8) D_Md_tape_0.1.1.2.2 rfl) ?_
      exact z_ret (w := some (vI (-1))) I (fun g => gk0 _ _ g (inR_c (x := (-1)) rfl)) ⟨_, rfl⟩ D_Md_tape_0.1.2.1.1 rfl
  exact main _ hF (by rw [hG0])
set_option maxHeartbeats 4000000 in
set_option maxRecDepth 20000 in
theorem c_Md_fit {l : Launch} {τ : TP} {x0 : Int} {l1 : Int} {h : HP} {r : Int} (hw : wf τ) (ax0 : inR x0) (al1 : inL l1) (hh : hr τ h) (hF : m_Md_fit x0 l1 h = some r) : Ctr l y_Md_fit k_Md_fit 3 (Option.some FieldType.long) 0 0 τ (fun ad => [vI x0, vL l1]) h (some (vL r)) h (inL r) := by
  refine ctr_of (by decide) hw hh (fun ad => Nat.le_of_ble_eq_true rfl) (fun ad K Y I hK => ?_)
  obtain ⟨G0, hG0⟩ : ∃ G : Int → Prop, G = fun x => x = r := ⟨_, rfl⟩
  have gk0 : ∀ (x : Int), G0 x → inL x → K (some (vL x)) h := fun x g q => by
    rw [hG0] at g
    cases g
    exact hK q
  have main : Z Y (m_Md_fit x0 l1 h) G0 h 0 [(0, vI x0), (1, vL l1)] [] := by
    unfold m_Md_fit
    refine z_s I (s_iload_n (pc' := 1) 0 rfl D_Md_fit_0.1.1.1.1 rfl rfl) ?_
    refine z_tin (tgt := 32) I ax0 D_Md_fit_0.1.1.1.2 0 ⟨by decide, by decide⟩ rfl rfl (fun c1 => ?_) (fun c1 => ?_)
    · refine z_s I (s_lload_n (pc' := 33) 1 rfl D_Md_fit_0.1.1.2.1 rfl rfl) ?_
      refine z_s I (s_l2i (pc' := 34) D_Md_fit_0.1.1.2.2 rfl) ?_
      refine z_s I (s_i2b (pc' := 35) D_Md_fit_0.1.2.1.1 rfl) ?_
      refine z_s I (s_i2l (pc' := 36) (r_i2b _) D_Md_fit_0.1.2.1.2 rfl) ?_
      exact z_ret (w := some (vL (i2b (l2i l1)))) I (fun g => gk0 _ g ((r_i2b _)).L) ⟨_, rfl⟩ D_Md_fit_0.1.2.2.1 rfl
    · skip
      refine z_tin (tgt := 37) I ax0 D_Md_fit_0.1.1.1.2 1 ⟨by decide, by decide⟩ rfl rfl (fun c2 => ?_) (fun c2 => ?_)
      · refine z_s I (s_lload_n (pc' := 38) 1 rfl D_Md_fit_0.1.2.2.2 rfl rfl) ?_
        refine z_s I (s_l2i (pc' := 39) D_Md_fit_0.2.1.1.1 rfl) ?_
        refine z_s I (s_i2s (pc' := 40) D_Md_fit_0.2.1.1.2 rfl) ?_
        refine z_s I (s_i2l (pc' := 41) (r_i2s _) D_Md_fit_0.2.1.2.1 rfl) ?_
        exact z_ret (w := some (vL (i2s (l2i l1)))) I (fun g => gk0 _ g ((r_i2s _)).L) ⟨_, rfl⟩ D_Md_fit_0.2.1.2.2 rfl
      · skip
        refine z_tin (tgt := 42) I ax0 D_Md_fit_0.1.1.1.2 2 ⟨by decide, by decide⟩ rfl rfl (fun c3 => ?_) (fun c3 => ?_)
        · refine z_s I (s_lload_n (pc' := 43) 1 rfl D_Md_fit_0.2.2.1.1 rfl rfl) ?_
          refine z_s I (s_l2i (pc' := 44) D_Md_fit_0.2.2.1.2 rfl) ?_
          refine z_s I (s_i2l (pc' := 45) (r_l2i _) D_Md_fit_0.2.2.2.1 rfl) ?_
          exact z_ret (w := some (vL (l2i l1))) I (fun g => gk0 _ g ((r_l2i _)).L) ⟨_, rfl⟩ D_Md_fit_0.2.2.2.2 rfl
        · skip
          refine z_tin (tgt := 46) I ax0 D_Md_fit_0.1.1.1.2 3 ⟨by decide, by decide⟩ rfl rfl (fun c4 => ?_) (fun c4 => ?_)
          · refine z_s I (s_lload_n (pc' := 47) 1 rfl D_Md_fit_1.1.1.1 rfl rfl) ?_
            exact z_ret (w := some (vL l1)) I (fun g => gk0 _ g al1) ⟨_, rfl⟩ D_Md_fit_1.1.1.2 rfl
          · skip
            refine z_tout (tgt := 48) I ax0 D_Md_fit_0.1.1.1.2 (by omega) rfl ?_
            refine z_s I (s_lload_n (pc' := 49) 1 rfl D_Md_fit_1.1.2.1 rfl rfl) ?_
            refine z_s I (s_lconst (pc' := 50) (x := 0) D_Md_fit_1.1.2.2.1 rfl rfl) ?_
            refine z_s I (s_lcmp (pc' := 51) al1 (inL_c (x := 0) rfl) D_Md_fit_1.1.2.2.2 rfl) ?_
            refine z_if_eq (tgt := 58) (pc' := 54) I (inR_lCmp _ _) D_Md_fit_1.2.1.1 rfl rfl (fun c5 => ?_) (fun c5 => ?_)
            · refine z_s I (s_lconst (pc' := 59) (x := 0) D_Md_fit_1.2.2.2.1 rfl rfl) ?_
              exact z_ret (w := some (vL 0)) I (fun g => gk0 _ g (inL_c (x := 0) rfl)) ⟨_, rfl⟩ D_Md_fit_1.2.2.2.2 rfl
            · refine z_s I (s_lconst (pc' := 55) (x := 1) D_Md_fit_1.2.1.2 rfl rfl) ?_
              refine z_s I (s_goto (tgt := 59) D_Md_fit_1.2.2.1 rfl) ?_
              exact z_ret (w := some (vL 1)) I (fun g => gk0 _ g (inL_c (x := 1) rfl)) ⟨_, rfl⟩ D_Md_fit_1.2.2.2.2 rfl
  exact main _ hF (by rw [hG0])
set_option maxHeartbeats 4000000 in
set_option maxRecDepth 20000 in
theorem c_Md_item {l : Launch} {τ : TP} {o : Int} {x1 : Int} {x2 : Int} {l3 : Int} {h : HP} {r : Int} {h' : HP} (hw : wf τ) (ao : ok τ (4, 10) o) (ax1 : inR x1) (ax2 : inR x2) (al3 : inL l3) (hh : hr τ h) (hF : m_Md_item o x1 x2 l3 h = some (r, h')) : Ctr l y_Md_item k_Md_item 5 (Option.some FieldType.int) 2 45 τ (fun ad => [vR ad o, vI x1, vI x2, vL l3]) h (some (vI r)) h' (inR r) := by
  refine ctr_of (by decide) hw hh (fun ad => Nat.le_of_ble_eq_true rfl) (fun ad K Y I hK => ?_)
  obtain ⟨G0, hG0⟩ : ∃ G : Int × HP → Prop, G = fun x => x = (r, h') := ⟨_, rfl⟩
  have gk0 : ∀ (x : Int) (y : HP), G0 (x, y) → inR x → K (some (vI x)) y := fun x y g q => by
    rw [hG0] at g
    cases g
    exact hK q
  have main : Z Y (m_Md_item o x1 x2 l3 h) G0 h 0 [(0, vR ad o), (1, vI x1), (2, vI x2), (3, vL l3)] [] := by
    unfold m_Md_item
    refine z_s I (s_iload_n (pc' := 1) 1 rfl D_Md_item_0.1.1.1.1 rfl rfl) ?_
    refine z_b1 (fun r3 q2 => ?_)
    refine z_callS (pc' := 4) I mv_Md_isTape ml_Md_380 (fun ad => [vI x1]) ⟨Nat.le_of_ble_eq_true rfl, Nat.le_of_ble_eq_true rfl⟩ (fun hh => c_Md_isTape hw ax1 hh q2) rfl rfl (Nat.le_of_ble_eq_true rfl) D_Md_item_0.1.1.1.2 rfl (fun f1 => ?_)
    refine z_if_ne (tgt := 9) (pc' := 7) I (b01.R f1) D_Md_item_0.1.1.2.1 rfl rfl (fun c4 => ?_) (fun c4 => ?_)
    · refine z_s I (s_aload_n (pc' := 10) 0 rfl D_Md_item_0.1.2.1.2 rfl rfl) ?_
      refine z_getR (pc' := 13) (eI := o + 36) I g_Md_107 ao rfl (by omega) D_Md_item_0.1.2.2.1 rfl ?_
      have k5 : ok τ (0, 6) (o + 36) := r_Md_tapeSort hw ao (by omega)
      refine z_s I (s_iload_n (pc' := 14) 1 rfl D_Md_item_0.1.2.2.2 rfl rfl) ?_
      refine z_iald (pc' := 15) (nI := 6) I k5 ax1 rfl D_Md_item_0.2.1.1.1 rfl (fun c6 f7 => ?_)
      refine z_if_ge (tgt := 21) (pc' := 18) I f7 D_Md_item_0.2.1.1.2 rfl rfl (fun c8 => ?_) (fun c8 => ?_)
      · refine z_s I (s_iload_n (pc' := 22) 2 rfl D_Md_item_0.2.2.1.1 rfl rfl) ?_
        refine z_s I (s_i2l (pc' := 23) ax2 D_Md_item_0.2.2.1.2 rfl) ?_
        refine z_s I (s_lconst (pc' := 24) (x := 0) D_Md_item_0.2.2.2.1 rfl rfl) ?_
        refine z_s I (s_aload_n (pc' := 25) 0 rfl D_Md_item_0.2.2.2.2 rfl rfl) ?_
        refine z_getR (pc' := 28) (eI := o + 37) I g_Md_110 ao rfl (by omega) D_Md_item_1.1.1.1.1 rfl ?_
        have k9 : ok τ (0, 6) (o + 37) := r_Md_tapeSize hw ao (by omega)
        refine z_s I (s_iload_n (pc' := 29) 1 rfl D_Md_item_1.1.1.1.2 rfl rfl) ?_
        refine z_iald (pc' := 30) (nI := 6) I k9 ax1 rfl D_Md_item_1.1.1.2.1 rfl (fun c10 f11 => ?_)
        refine z_s I (s_iconst (pc' := 31) D_Md_item_1.1.1.2.2 rfl) ?_
        refine z_s I (s_isub (pc' := 32) D_Md_item_1.1.2.1.1 rfl) ?_
        refine z_s I (s_i2l (pc' := 33) (inR_w32 _) D_Md_item_1.1.2.1.2 rfl) ?_
        refine z_b1 (fun r14 q13 => ?_)
        refine z_callS (pc' := 36) I mv_Md_in ml_Md_119 (fun ad => [vL x2, vL 0, vL (w32 ((h (o + 37) x1) - 1))]) ⟨Nat.le_of_ble_eq_true rfl, Nat.le_of_ble_eq_true rfl⟩ (fun hh => c_Md_in hw (ax2).L (inL_c (x := 0) rfl) ((inR_w32 _)).L hh q13) rfl rfl (Nat.le_of_ble_eq_true rfl) D_Md_item_1.1.2.2.1 rfl (fun f12 => ?_)
        refine z_if_ne (tgt := 42) (pc' := 39) I (b01.R f12) D_Md_item_1.1.2.2.2 rfl rfl (fun c15 => ?_) (fun c15 => ?_)
        · refine z_s I (s_aload_n (pc' := 43) 0 rfl D_Md_item_1.2.1.2.1 rfl rfl) ?_
          refine z_getR (pc' := 46) (eI := o + 29) I g_Md_104 ao rfl (by omega) D_Md_item_1.2.1.2.2 rfl ?_
          have k16 : ok τ (3, 3) (o + 29) := r_Md_tapes hw ao (by omega)
          refine z_s I (s_iload_n (pc' := 47) 1 rfl D_Md_item_1.2.2.1.1 rfl rfl) ?_
          refine z_aald (pc' := 48) (eI := o + x1 + 30) I 6 1 1 k16 ax1 rfl rfl rfl (by omega) D_Md_item_1.2.2.1.2 rfl (fun c17 => ?_)
          have k18 : ok τ (1, 60) (o + x1 + 30) := e_3 hw k16 c17 (by omega)
          refine z_s I (s_iload_n (pc' := 49) 2 rfl D_Md_item_1.2.2.2.1 rfl rfl) ?_
          refine z_s I (s_aload_n (pc' := 50) 0 rfl D_Md_item_1.2.2.2.2 rfl rfl) ?_
          refine z_getR (pc' := 53) (eI := o + 36) I g_Md_107 ao rfl (by omega) D_Md_item_2.1.1.1 rfl ?_
          have k19 : ok τ (0, 6) (o + 36) := r_Md_tapeSort hw ao (by omega)
          refine z_s I (s_iload_n (pc' := 54) 1 rfl D_Md_item_2.1.1.2 rfl rfl) ?_
          refine z_iald (pc' := 55) (nI := 6) I k19 ax1 rfl D_Md_item_2.1.2.1 rfl (fun c20 f21 => ?_)
          refine z_s I (s_lload_n (pc' := 56) 3 rfl D_Md_item_2.1.2.2 rfl rfl) ?_
          refine z_b1 (fun r24 q23 => ?_)
          refine z_callS (pc' := 59) I mv_Md_fit ml_Md_388 (fun ad => [vI (h (o + 36) x1), vL l3]) ⟨Nat.le_of_ble_eq_true rfl, Nat.le_of_ble_eq_true rfl⟩ (fun hh => c_Md_fit hw f21 al3 hh q23) rfl rfl (Nat.le_of_ble_eq_true rfl) D_Md_item_2.2.1.1 rfl (fun f22 => ?_)
          refine z_last (pc' := 60) (nI := 60) I k18 ax2 f22 rfl D_Md_item_2.2.1.2 rfl (fun c25 => ?_)
          refine z_bH (fun h26 e27 => ?_)
          refine z_s I (s_iconst (pc' := 61) D_Md_item_2.2.2.1 rfl) ?_
          exact z_ret (w := some (vI 1)) I (fun g => gk0 _ _ g (b01.R bz1)) ⟨_, rfl⟩ D_Md_item_2.2.2.2 rfl
        · refine z_s I (s_bipush (pc' := 41) D_Md_item_1.2.1.1.1 rfl rfl) ?_
          exact z_ret (w := some (vI (-13))) I (fun g => gk0 _ _ g (inR_c (x := (-13)) rfl)) ⟨_, rfl⟩ D_Md_item_1.2.1.1.2 rfl
      · refine z_s I (s_bipush (pc' := 20) D_Md_item_0.2.1.2.1 rfl rfl) ?_
        exact z_ret (w := some (vI (-11))) I (fun g => gk0 _ _ g (inR_c (x := (-11)) rfl)) ⟨_, rfl⟩ D_Md_item_0.2.1.2.2 rfl
    · refine z_s I (s_iconst (pc' := 8) D_Md_item_0.1.1.2.2 rfl) ?_
      exact z_ret (w := some (vI (-1))) I (fun g => gk0 _ _ g (inR_c (x := (-1)) rfl)) ⟨_, rfl⟩ D_Md_item_0.1.2.1.1 rfl
  exact main _ hF (by rw [hG0])
set_option maxHeartbeats 4000000 in
set_option maxRecDepth 20000 in
theorem c_Md_peek {l : Launch} {τ : TP} {o : Int} {x1 : Int} {x2 : Int} {h : HP} {r : Int} (hw : wf τ) (ao : ok τ (4, 10) o) (ax1 : inR x1) (ax2 : inR x2) (hh : hr τ h) (hF : m_Md_peek o x1 x2 h = some r) : Ctr l y_Md_peek k_Md_peek 3 (Option.some FieldType.long) 2 45 τ (fun ad => [vR ad o, vI x1, vI x2]) h (some (vL r)) h (inL r) := by
  refine ctr_of (by decide) hw hh (fun ad => Nat.le_of_ble_eq_true rfl) (fun ad K Y I hK => ?_)
  obtain ⟨G0, hG0⟩ : ∃ G : Int → Prop, G = fun x => x = r := ⟨_, rfl⟩
  have gk0 : ∀ (x : Int), G0 x → inL x → K (some (vL x)) h := fun x g q => by
    rw [hG0] at g
    cases g
    exact hK q
  have main : Z Y (m_Md_peek o x1 x2 h) G0 h 0 [(0, vR ad o), (1, vI x1), (2, vI x2)] [] := by
    unfold m_Md_peek
    refine z_s I (s_iload_n (pc' := 1) 1 rfl D_Md_peek_0.1.1.1.1 rfl rfl) ?_
    refine z_b1 (fun r3 q2 => ?_)
    refine z_callS (pc' := 4) I mv_Md_isTape ml_Md_380 (fun ad => [vI x1]) ⟨Nat.le_of_ble_eq_true rfl, Nat.le_of_ble_eq_true rfl⟩ (fun hh => c_Md_isTape hw ax1 hh q2) rfl rfl (Nat.le_of_ble_eq_true rfl) D_Md_peek_0.1.1.1.2 rfl (fun f1 => ?_)
    refine z_if_eq (tgt := 45) (pc' := 7) I (b01.R f1) D_Md_peek_0.1.1.2.1 rfl rfl (fun c4 => ?_) (fun c4 => ?_)
    · refine z_ldc2 (pc' := 48) (x := (-9223372036854775808)) I cl_Md_259 (by decide +kernel) D_Md_peek_1.2.2.2.1 rfl ?_
      exact z_ret (w := some (vL (-9223372036854775808))) I (fun g => gk0 _ g (inL_c (x := (-9223372036854775808)) rfl)) ⟨_, rfl⟩ D_Md_peek_1.2.2.2.2 rfl
    · refine z_s I (s_aload_n (pc' := 8) 0 rfl D_Md_peek_0.1.1.2.2 rfl rfl) ?_
      refine z_getR (pc' := 11) (eI := o + 36) I g_Md_107 ao rfl (by omega) D_Md_peek_0.1.2.1.1 rfl ?_
      have k5 : ok τ (0, 6) (o + 36) := r_Md_tapeSort hw ao (by omega)
      refine z_s I (s_iload_n (pc' := 12) 1 rfl D_Md_peek_0.1.2.1.2 rfl rfl) ?_
      refine z_iald (pc' := 13) (nI := 6) I k5 ax1 rfl D_Md_peek_0.1.2.2.1 rfl (fun c6 f7 => ?_)
      refine z_if_lt (tgt := 45) (pc' := 16) I f7 D_Md_peek_0.1.2.2.2 rfl rfl (fun c8 => ?_) (fun c8 => ?_)
      · refine z_ldc2 (pc' := 48) (x := (-9223372036854775808)) I cl_Md_259 (by decide +kernel) D_Md_peek_1.2.2.2.1 rfl ?_
        exact z_ret (w := some (vL (-9223372036854775808))) I (fun g => gk0 _ g (inL_c (x := (-9223372036854775808)) rfl)) ⟨_, rfl⟩ D_Md_peek_1.2.2.2.2 rfl
      · refine z_s I (s_iload_n (pc' := 17) 2 rfl D_Md_peek_0.2.1.1.1 rfl rfl) ?_
        refine z_s I (s_i2l (pc' := 18) ax2 D_Md_peek_0.2.1.1.2 rfl) ?_
        refine z_s I (s_lconst (pc' := 19) (x := 0) D_Md_peek_0.2.1.2.1 rfl rfl) ?_
        refine z_s I (s_aload_n (pc' := 20) 0 rfl D_Md_peek_0.2.1.2.2 rfl rfl) ?_
        refine z_getR (pc' := 23) (eI := o + 37) I g_Md_110 ao rfl (by omega) D_Md_peek_0.2.2.1.1 rfl ?_
        have k9 : ok τ (0, 6) (o + 37) := r_Md_tapeSize hw ao (by omega)
        refine z_s I (s_iload_n (pc' := 24) 1 rfl D_Md_peek_0.2.2.1.2 rfl rfl) ?_
        refine z_iald (pc' := 25) (nI := 6) I k9 ax1 rfl D_Md_peek_0.2.2.2.1 rfl (fun c10 f11 => ?_)
        refine z_s I (s_iconst (pc' := 26) D_Md_peek_0.2.2.2.2 rfl) ?_
        refine z_s I (s_isub (pc' := 27) D_Md_peek_1.1.1.1 rfl) ?_
        refine z_s I (s_i2l (pc' := 28) (inR_w32 _) D_Md_peek_1.1.1.2.1 rfl) ?_
        refine z_b1 (fun r14 q13 => ?_)
        refine z_callS (pc' := 31) I mv_Md_in ml_Md_119 (fun ad => [vL x2, vL 0, vL (w32 ((h (o + 37) x1) - 1))]) ⟨Nat.le_of_ble_eq_true rfl, Nat.le_of_ble_eq_true rfl⟩ (fun hh => c_Md_in hw (ax2).L (inL_c (x := 0) rfl) ((inR_w32 _)).L hh q13) rfl rfl (Nat.le_of_ble_eq_true rfl) D_Md_peek_1.1.1.2.2 rfl (fun f12 => ?_)
        refine z_if_eq (tgt := 45) (pc' := 34) I (b01.R f12) D_Md_peek_1.1.2.1 rfl rfl (fun c15 => ?_) (fun c15 => ?_)
        · refine z_ldc2 (pc' := 48) (x := (-9223372036854775808)) I cl_Md_259 (by decide +kernel) D_Md_peek_1.2.2.2.1 rfl ?_
          exact z_ret (w := some (vL (-9223372036854775808))) I (fun g => gk0 _ g (inL_c (x := (-9223372036854775808)) rfl)) ⟨_, rfl⟩ D_Md_peek_1.2.2.2.2 rfl
        · refine z_s I (s_aload_n (pc' := 35) 0 rfl D_Md_peek_1.1.2.2.1 rfl rfl) ?_
          refine z_getR (pc' := 38) (eI := o + 29) I g_Md_104 ao rfl (by omega) D_Md_peek_1.1.2.2.2 rfl ?_
          have k16 : ok τ (3, 3) (o + 29) := r_Md_tapes hw ao (by omega)
          refine z_s I (s_iload_n (pc' := 39) 1 rfl D_Md_peek_1.2.1.1 rfl rfl) ?_
          refine z_aald (pc' := 40) (eI := o + x1 + 30) I 6 1 1 k16 ax1 rfl rfl rfl (by omega) D_Md_peek_1.2.1.2.1 rfl (fun c17 => ?_)
          have k18 : ok τ (1, 60) (o + x1 + 30) := e_3 hw k16 c17 (by omega)
          refine z_s I (s_iload_n (pc' := 41) 2 rfl D_Md_peek_1.2.1.2.2 rfl rfl) ?_
          refine z_lald (pc' := 42) (nI := 60) I k18 ax2 rfl D_Md_peek_1.2.2.1.1 rfl (fun c19 f20 => ?_)
          refine z_s I (s_goto (tgt := 48) D_Md_peek_1.2.2.1.2 rfl) ?_
          exact z_ret (w := some (vL (h (o + x1 + 30) x2))) I (fun g => gk0 _ g f20) ⟨_, rfl⟩ D_Md_peek_1.2.2.2.2 rfl
  exact main _ hF (by rw [hG0])
set_option maxHeartbeats 4000000 in
set_option maxRecDepth 20000 in
theorem c_Md_shift {l : Launch} {τ : TP} {o : Int} {x1 : Int} {x2 : Int} {x3 : Int} {x4 : Int} {x5 : Int} {h : HP} {r : Int} {h' : HP} (hw : wf τ) (ao : ok τ (4, 10) o) (ax1 : inR x1) (ax2 : inR x2) (ax3 : inR x3) (ax4 : inR x4) (ax5 : inR x5) (hh : hr τ h) (hF : m_Md_shift o x1 x2 x3 x4 x5 h = some (r, h')) : Ctr l y_Md_shift k_Md_shift 7 (Option.some FieldType.int) 2 45 τ (fun ad => [vR ad o, vI x1, vI x2, vI x3, vI x4, vI x5]) h (some (vI r)) h' (inR r) := by
  refine ctr_of (by decide) hw hh (fun ad => Nat.le_of_ble_eq_true rfl) (fun ad K Y I hK => ?_)
  obtain ⟨G0, hG0⟩ : ∃ G : Int × HP → Prop, G = fun x => x = (r, h') := ⟨_, rfl⟩
  have gk0 : ∀ (x : Int) (y : HP), G0 (x, y) → inR x → K (some (vI x)) y := fun x y g q => by
    rw [hG0] at g
    cases g
    exact hK q
  have L158 : ∀ (s : Int × HP), (inR (s.1)) → Z Y (m_Md_shift_L158 o x3 x4 x5 s) G0 (s.2) 158 [(0, vR ad o), (3, vI x3), (4, vI x4), (5, vI x5), (6, vI (s.1))] [] := by
    intro s hs
    refine z_loop (G := G0) (hO := fun s : Int × HP => s.2) (lO := fun s : Int × HP => [(0, vR ad o), (3, vI x3), (4, vI x4), (5, vI x5), (6, vI (s.1))]) (Φ := fun s : Int × HP => inR (s.1)) (fun G1 hin1_1 hout1 s hs => ?_) FUEL s hs
    obtain ⟨x6, h⟩ := s
    have ax6 := hs
    have gk1 := fun (x : Int) (y : HP) (g : G1 (.inr ((x, y)))) (q : inR x) => gk0 x y (hout1 _ g) q
    show Z Y (m_Md_shift_L158b o x3 x4 x5 x6 h) G1 h 158 [(0, vR ad o), (3, vI x3), (4, vI x4), (5, vI x5), (6, vI x6)] []
    unfold m_Md_shift_L158b
    refine z_s I (s_iload (pc' := 160) 4 rfl D_Md_shift_5.2.1.1.1 rfl) ?_
    refine z_s I (s_iload (pc' := 162) 3 rfl D_Md_shift_5.2.1.1.2 rfl) ?_
    refine z_icmp_ge (tgt := 190) (pc' := 165) I ax6 ax5 D_Md_shift_5.2.1.2.1 rfl rfl (fun c1 => ?_) (fun c1 => ?_)
    · refine z_s I (s_iload (pc' := 192) 3 rfl D_Md_shift_6.2.2.2.1 rfl) ?_
      exact z_ret (w := some (vI x5)) I (fun g => gk1 _ _ g ax5) ⟨_, rfl⟩ D_Md_shift_6.2.2.2.2 rfl
    · refine z_s I (s_aload_n (pc' := 166) 0 rfl D_Md_shift_5.2.1.2.2 rfl rfl) ?_
      refine z_getR (pc' := 169) (eI := o + 29) I g_Md_104 ao rfl (by omega) D_Md_shift_5.2.2.1.1 rfl ?_
      have k2 : ok τ (3, 3) (o + 29) := r_Md_tapes hw ao (by omega)
      refine z_s I (s_iload_n (pc' := 170) 1 rfl D_Md_shift_5.2.2.1.2 rfl rfl) ?_
      refine z_aald (pc' := 171) (eI := o + x3 + 30) I 6 1 1 k2 ax3 rfl rfl rfl (by omega) D_Md_shift_5.2.2.2.1 rfl (fun c3 => ?_)
      have k4 : ok τ (1, 60) (o + x3 + 30) := e_3 hw k2 c3 (by omega)
      refine z_s I (s_iload (pc' := 173) 2 rfl D_Md_shift_5.2.2.2.2 rfl) ?_
      refine z_s I (s_iload (pc' := 175) 4 rfl D_Md_shift_6.1.1.1 rfl) ?_
      refine z_s I (s_iadd (pc' := 176) D_Md_shift_6.1.1.2 rfl) ?_
      refine z_s I (s_aload_n (pc' := 177) 0 rfl D_Md_shift_6.1.2.1 rfl rfl) ?_
      refine z_getR (pc' := 180) (eI := o + 38) I g_Md_113 ao rfl (by omega) D_Md_shift_6.1.2.2.1 rfl ?_
      have k5 : ok τ (1, 60) (o + 38) := r_Md_moved hw ao (by omega)
      refine z_s I (s_iload (pc' := 182) 4 rfl D_Md_shift_6.1.2.2.2 rfl) ?_
      refine z_lald (pc' := 183) (nI := 60) I k5 ax6 rfl D_Md_shift_6.2.1.1 rfl (fun c6 f7 => ?_)
      refine z_last (pc' := 184) (nI := 60) I k4 (inR_w32 _) f7 rfl D_Md_shift_6.2.1.2.1 rfl (fun c8 => ?_)
      refine z_bH (fun h9 e10 => ?_)
      refine z_s I (s_iinc (pc' := 187) (lv' := [(6, vI (w32 (x6 + 1))), (0, vR ad o), (3, vI x3), (4, vI x4), (5, vI x5)]) (n := 4) rfl D_Md_shift_6.2.1.2.2 (by decide) rfl rfl) ?_
      refine z_s I (s_goto (tgt := 158) D_Md_shift_6.2.2.1 rfl) ?_
      refine z_s I (s_lv (lv' := [(0, vR ad o), (3, vI x3), (4, vI x4), (5, vI x5), (6, vI (w32 (x6 + 1)))]) [1, 2, 3, 4, 0] rfl) ?_
      exact z_end (fun g => hin1_1 _ g (inR_w32 _))
  have L124 : ∀ (s : Int × HP), (inR (s.1)) → Z Y (m_Md_shift_L124 o x1 x2 x3 x4 x5 s) G0 (s.2) 124 [(0, vR ad o), (1, vI x1), (2, vI x2), (3, vI x3), (4, vI x4), (5, vI x5), (6, vI (s.1))] [] := by
    intro s hs
    refine z_loop (G := G0) (hO := fun s : Int × HP => s.2) (lO := fun s : Int × HP => [(0, vR ad o), (1, vI x1), (2, vI x2), (3, vI x3), (4, vI x4), (5, vI x5), (6, vI (s.1))]) (Φ := fun s : Int × HP => inR (s.1)) (fun G1 hin1_1 hout1 s hs => ?_) FUEL s hs
    obtain ⟨x6, h⟩ := s
    have ax6 := hs
    have gk1 := fun (x : Int) (y : HP) (g : G1 (.inr ((x, y)))) (q : inR x) => gk0 x y (hout1 _ g) q
    show Z Y (m_Md_shift_L124b o x1 x2 x3 x4 x5 x6 h) G1 h 124 [(0, vR ad o), (1, vI x1), (2, vI x2), (3, vI x3), (4, vI x4), (5, vI x5), (6, vI x6)] []
    unfold m_Md_shift_L124b
    refine z_s I (s_iload (pc' := 126) 6 rfl D_Md_shift_4.1.2.1.2 rfl) ?_
    refine z_s I (s_iload (pc' := 128) 5 rfl D_Md_shift_4.1.2.2.1 rfl) ?_
    refine z_icmp_ge (tgt := 155) (pc' := 131) I ax6 ax5 D_Md_shift_4.1.2.2.2 rfl rfl (fun c11 => ?_) (fun c11 => ?_)
    · refine z_s I (s_iconst (pc' := 156) D_Md_shift_5.1.2.2.1 rfl) ?_
      refine z_s I (s_istore (pc' := 158) (lv' := [(6, vI 0), (0, vR ad o), (1, vI x1), (2, vI x2), (3, vI x3), (4, vI x4), (5, vI x5)]) D_Md_shift_5.1.2.2.2 (by decide) rfl rfl) ?_
      refine z_map _ (fun x g => hout1 x g) ?_
      refine z_s I (s_lv (lv' := [(0, vR ad o), (3, vI x3), (4, vI x4), (5, vI x5), (6, vI 0)]) [1, 4, 5, 6, 0] rfl) ?_
      exact L158 _ (b01.R bz0)
    · refine z_s I (s_aload_n (pc' := 132) 0 rfl D_Md_shift_4.2.1.1.1 rfl rfl) ?_
      refine z_getR (pc' := 135) (eI := o + 38) I g_Md_113 ao rfl (by omega) D_Md_shift_4.2.1.1.2 rfl ?_
      have k12 : ok τ (1, 60) (o + 38) := r_Md_moved hw ao (by omega)
      refine z_s I (s_iload (pc' := 137) 6 rfl D_Md_shift_4.2.1.2.1 rfl) ?_
      refine z_s I (s_aload_n (pc' := 138) 0 rfl D_Md_shift_4.2.1.2.2 rfl rfl) ?_
      refine z_getR (pc' := 141) (eI := o + 29) I g_Md_104 ao rfl (by omega) D_Md_shift_4.2.2.1.1 rfl ?_
      have k13 : ok τ (3, 3) (o + 29) := r_Md_tapes hw ao (by omega)
      refine z_s I (s_iload_n (pc' := 142) 1 rfl D_Md_shift_4.2.2.1.2 rfl rfl) ?_
      refine z_aald (pc' := 143) (eI := o + x1 + 30) I 6 1 1 k13 ax1 rfl rfl rfl (by omega) D_Md_shift_4.2.2.2.1 rfl (fun c14 => ?_)
      have k15 : ok τ (1, 60) (o + x1 + 30) := e_3 hw k13 c14 (by omega)
      refine z_s I (s_iload_n (pc' := 144) 2 rfl D_Md_shift_4.2.2.2.2 rfl rfl) ?_
      refine z_s I (s_iload (pc' := 146) 6 rfl D_Md_shift_5.1.1.1.1 rfl) ?_
      refine z_s I (s_iadd (pc' := 147) D_Md_shift_5.1.1.1.2 rfl) ?_
      refine z_lald (pc' := 148) (nI := 60) I k15 (inR_w32 _) rfl D_Md_shift_5.1.1.2.1 rfl (fun c16 f17 => ?_)
      refine z_last (pc' := 149) (nI := 60) I k12 ax6 f17 rfl D_Md_shift_5.1.1.2.2 rfl (fun c18 => ?_)
      refine z_bH (fun h19 e20 => ?_)
      refine z_s I (s_iinc (pc' := 152) (lv' := [(6, vI (w32 (x6 + 1))), (0, vR ad o), (1, vI x1), (2, vI x2), (3, vI x3), (4, vI x4), (5, vI x5)]) (n := 6) rfl D_Md_shift_5.1.2.1.1 (by decide) rfl rfl) ?_
      refine z_s I (s_goto (tgt := 124) D_Md_shift_5.1.2.1.2 rfl) ?_
      refine z_s I (s_lv (lv' := [(0, vR ad o), (1, vI x1), (2, vI x2), (3, vI x3), (4, vI x4), (5, vI x5), (6, vI (w32 (x6 + 1)))]) [1, 2, 3, 4, 5, 6, 0] rfl) ?_
      exact z_end (fun g => hin1_1 _ g (inR_w32 _))
  have main : Z Y (m_Md_shift o x1 x2 x3 x4 x5 h) G0 h 0 [(0, vR ad o), (1, vI x1), (2, vI x2), (3, vI x3), (4, vI x4), (5, vI x5)] [] := by
    unfold m_Md_shift
    refine z_s I (s_iload_n (pc' := 1) 1 rfl D_Md_shift_0.1.1.1.1 rfl rfl) ?_
    refine z_b1 (fun r23 q22 => ?_)
    refine z_callS (pc' := 4) I mv_Md_isTape ml_Md_380 (fun ad => [vI x1]) ⟨Nat.le_of_ble_eq_true rfl, Nat.le_of_ble_eq_true rfl⟩ (fun hh => c_Md_isTape hw ax1 hh q22) rfl rfl (Nat.le_of_ble_eq_true rfl) D_Md_shift_0.1.1.1.2 rfl (fun f21 => ?_)
    refine z_if_eq (tgt := 14) (pc' := 7) I (b01.R f21) D_Md_shift_0.1.1.2.1 rfl rfl (fun c24 => ?_) (fun c24 => ?_)
    · refine z_s I (s_iconst (pc' := 15) D_Md_shift_0.1.2.2.1 rfl) ?_
      exact z_ret (w := some (vI (-1))) I (fun g => gk0 _ _ g (inR_c (x := (-1)) rfl)) ⟨_, rfl⟩ D_Md_shift_0.1.2.2.2 rfl
    · refine z_s I (s_iload_n (pc' := 8) 3 rfl D_Md_shift_0.1.1.2.2 rfl rfl) ?_
      refine z_b1 (fun r27 q26 => ?_)
      refine z_callS (pc' := 11) I mv_Md_isTape ml_Md_380 (fun ad => [vI x3]) ⟨Nat.le_of_ble_eq_true rfl, Nat.le_of_ble_eq_true rfl⟩ (fun hh => c_Md_isTape hw ax3 hh q26) rfl rfl (Nat.le_of_ble_eq_true rfl) D_Md_shift_0.1.2.1.1 rfl (fun f25 => ?_)
      refine z_if_ne (tgt := 16) (pc' := 14) I (b01.R f25) D_Md_shift_0.1.2.1.2 rfl rfl (fun c28 => ?_) (fun c28 => ?_)
      · refine z_s I (s_aload_n (pc' := 17) 0 rfl D_Md_shift_0.2.1.1.1 rfl rfl) ?_
        refine z_getR (pc' := 20) (eI := o + 36) I g_Md_107 ao rfl (by omega) D_Md_shift_0.2.1.1.2 rfl ?_
        have k29 : ok τ (0, 6) (o + 36) := r_Md_tapeSort hw ao (by omega)
        refine z_s I (s_iload_n (pc' := 21) 1 rfl D_Md_shift_0.2.1.2.1 rfl rfl) ?_
        refine z_iald (pc' := 22) (nI := 6) I k29 ax1 rfl D_Md_shift_0.2.1.2.2 rfl (fun c30 f31 => ?_)
        refine z_if_lt (tgt := 34) (pc' := 25) I f31 D_Md_shift_0.2.2.1.1 rfl rfl (fun c32 => ?_) (fun c32 => ?_)
        · refine z_s I (s_bipush (pc' := 36) D_Md_shift_1.1.1.2.1 rfl rfl) ?_
          exact z_ret (w := some (vI (-11))) I (fun g => gk0 _ _ g (inR_c (x := (-11)) rfl)) ⟨_, rfl⟩ D_Md_shift_1.1.1.2.2 rfl
        · refine z_s I (s_aload_n (pc' := 26) 0 rfl D_Md_shift_0.2.2.1.2 rfl rfl) ?_
          refine z_getR (pc' := 29) (eI := o + 36) I g_Md_107 ao rfl (by omega) D_Md_shift_0.2.2.2.1 rfl ?_
          have k33 : ok τ (0, 6) (o + 36) := r_Md_tapeSort hw ao (by omega)
          refine z_s I (s_iload_n (pc' := 30) 3 rfl D_Md_shift_0.2.2.2.2 rfl rfl) ?_
          refine z_iald (pc' := 31) (nI := 6) I k33 ax3 rfl D_Md_shift_1.1.1.1.1 rfl (fun c34 f35 => ?_)
          refine z_if_ge (tgt := 37) (pc' := 34) I f35 D_Md_shift_1.1.1.1.2 rfl rfl (fun c36 => ?_) (fun c36 => ?_)
          · refine z_s I (s_aload_n (pc' := 38) 0 rfl D_Md_shift_1.1.2.1.1 rfl rfl) ?_
            refine z_getR (pc' := 41) (eI := o + 36) I g_Md_107 ao rfl (by omega) D_Md_shift_1.1.2.1.2 rfl ?_
            have k37 : ok τ (0, 6) (o + 36) := r_Md_tapeSort hw ao (by omega)
            refine z_s I (s_iload_n (pc' := 42) 1 rfl D_Md_shift_1.1.2.2.1 rfl rfl) ?_
            refine z_iald (pc' := 43) (nI := 6) I k37 ax1 rfl D_Md_shift_1.1.2.2.2 rfl (fun c38 f39 => ?_)
            refine z_s I (s_aload_n (pc' := 44) 0 rfl D_Md_shift_1.2.1.1.1 rfl rfl) ?_
            refine z_getR (pc' := 47) (eI := o + 36) I g_Md_107 ao rfl (by omega) D_Md_shift_1.2.1.1.2 rfl ?_
            have k40 : ok τ (0, 6) (o + 36) := r_Md_tapeSort hw ao (by omega)
            refine z_s I (s_iload_n (pc' := 48) 3 rfl D_Md_shift_1.2.1.2.1 rfl rfl) ?_
            refine z_iald (pc' := 49) (nI := 6) I k40 ax3 rfl D_Md_shift_1.2.1.2.2 rfl (fun c41 f42 => ?_)
            refine z_icmp_eq (tgt := 55) (pc' := 52) I f39 f42 D_Md_shift_1.2.2.1.1 rfl rfl (fun c43 => ?_) (fun c43 => ?_)
            · refine z_s I (s_iload (pc' := 57) 5 rfl D_Md_shift_1.2.2.2.2 rfl) ?_
              refine z_if_lt (tgt := 118) (pc' := 60) I ax5 D_Md_shift_2.1.1.1.1 rfl rfl (fun c44 => ?_) (fun c44 => ?_)
              · refine z_s I (s_bipush (pc' := 120) D_Md_shift_4.1.1.1.2 rfl rfl) ?_
                exact z_ret (w := some (vI (-13))) I (fun g => gk0 _ _ g (inR_c (x := (-13)) rfl)) ⟨_, rfl⟩ D_Md_shift_4.1.1.2.1 rfl
              · refine z_s I (s_iload_n (pc' := 61) 2 rfl D_Md_shift_2.1.1.1.2 rfl rfl) ?_
                refine z_if_lt (tgt := 118) (pc' := 64) I ax2 D_Md_shift_2.1.1.2.1 rfl rfl (fun c45 => ?_) (fun c45 => ?_)
                · refine z_s I (s_bipush (pc' := 120) D_Md_shift_4.1.1.1.2 rfl rfl) ?_
                  exact z_ret (w := some (vI (-13))) I (fun g => gk0 _ _ g (inR_c (x := (-13)) rfl)) ⟨_, rfl⟩ D_Md_shift_4.1.1.2.1 rfl
                · refine z_s I (s_iload (pc' := 66) 4 rfl D_Md_shift_2.1.1.2.2 rfl) ?_
                  refine z_if_lt (tgt := 118) (pc' := 69) I ax4 D_Md_shift_2.1.2.1.1 rfl rfl (fun c46 => ?_) (fun c46 => ?_)
                  · refine z_s I (s_bipush (pc' := 120) D_Md_shift_4.1.1.1.2 rfl rfl) ?_
                    exact z_ret (w := some (vI (-13))) I (fun g => gk0 _ _ g (inR_c (x := (-13)) rfl)) ⟨_, rfl⟩ D_Md_shift_4.1.1.2.1 rfl
                  · refine z_s I (s_iload (pc' := 71) 5 rfl D_Md_shift_2.1.2.1.2 rfl) ?_
                    refine z_s I (s_aload_n (pc' := 72) 0 rfl D_Md_shift_2.1.2.2.1 rfl rfl) ?_
                    refine z_getR (pc' := 75) (eI := o + 37) I g_Md_110 ao rfl (by omega) D_Md_shift_2.1.2.2.2 rfl ?_
                    have k47 : ok τ (0, 6) (o + 37) := r_Md_tapeSize hw ao (by omega)
                    refine z_s I (s_iload_n (pc' := 76) 1 rfl D_Md_shift_2.2.1.1.1 rfl rfl) ?_
                    refine z_iald (pc' := 77) (nI := 6) I k47 ax1 rfl D_Md_shift_2.2.1.1.2 rfl (fun c48 f49 => ?_)
                    refine z_icmp_gt (tgt := 118) (pc' := 80) I ax5 f49 D_Md_shift_2.2.1.2.1 rfl rfl (fun c50 => ?_) (fun c50 => ?_)
                    · refine z_s I (s_bipush (pc' := 120) D_Md_shift_4.1.1.1.2 rfl rfl) ?_
                      exact z_ret (w := some (vI (-13))) I (fun g => gk0 _ _ g (inR_c (x := (-13)) rfl)) ⟨_, rfl⟩ D_Md_shift_4.1.1.2.1 rfl
                    · refine z_s I (s_iload (pc' := 82) 5 rfl D_Md_shift_2.2.1.2.2 rfl) ?_
                      refine z_s I (s_aload_n (pc' := 83) 0 rfl D_Md_shift_2.2.2.1.1 rfl rfl) ?_
                      refine z_getR (pc' := 86) (eI := o + 37) I g_Md_110 ao rfl (by omega) D_Md_shift_2.2.2.1.2 rfl ?_
                      have k51 : ok τ (0, 6) (o + 37) := r_Md_tapeSize hw ao (by omega)
                      refine z_s I (s_iload_n (pc' := 87) 3 rfl D_Md_shift_2.2.2.2.1 rfl rfl) ?_
                      refine z_iald (pc' := 88) (nI := 6) I k51 ax3 rfl D_Md_shift_2.2.2.2.2 rfl (fun c52 f53 => ?_)
                      refine z_icmp_gt (tgt := 118) (pc' := 91) I ax5 f53 D_Md_shift_3.1.1.1.1 rfl rfl (fun c54 => ?_) (fun c54 => ?_)
                      · refine z_s I (s_bipush (pc' := 120) D_Md_shift_4.1.1.1.2 rfl rfl) ?_
                        exact z_ret (w := some (vI (-13))) I (fun g => gk0 _ _ g (inR_c (x := (-13)) rfl)) ⟨_, rfl⟩ D_Md_shift_4.1.1.2.1 rfl
                      · refine z_s I (s_iload_n (pc' := 92) 2 rfl D_Md_shift_3.1.1.1.2 rfl rfl) ?_
                        refine z_s I (s_aload_n (pc' := 93) 0 rfl D_Md_shift_3.1.1.2.1 rfl rfl) ?_
                        refine z_getR (pc' := 96) (eI := o + 37) I g_Md_110 ao rfl (by omega) D_Md_shift_3.1.1.2.2 rfl ?_
                        have k55 : ok τ (0, 6) (o + 37) := r_Md_tapeSize hw ao (by omega)
                        refine z_s I (s_iload_n (pc' := 97) 1 rfl D_Md_shift_3.1.2.1.1 rfl rfl) ?_
                        refine z_iald (pc' := 98) (nI := 6) I k55 ax1 rfl D_Md_shift_3.1.2.1.2 rfl (fun c56 f57 => ?_)
                        refine z_s I (s_iload (pc' := 100) 5 rfl D_Md_shift_3.1.2.2.1 rfl) ?_
                        refine z_s I (s_isub (pc' := 101) D_Md_shift_3.1.2.2.2 rfl) ?_
                        refine z_icmp_gt (tgt := 118) (pc' := 104) I ax2 (inR_w32 _) D_Md_shift_3.2.1.1.1 rfl rfl (fun c58 => ?_) (fun c58 => ?_)
                        · refine z_s I (s_bipush (pc' := 120) D_Md_shift_4.1.1.1.2 rfl rfl) ?_
                          exact z_ret (w := some (vI (-13))) I (fun g => gk0 _ _ g (inR_c (x := (-13)) rfl)) ⟨_, rfl⟩ D_Md_shift_4.1.1.2.1 rfl
                        · refine z_s I (s_iload (pc' := 106) 4 rfl D_Md_shift_3.2.1.1.2 rfl) ?_
                          refine z_s I (s_aload_n (pc' := 107) 0 rfl D_Md_shift_3.2.1.2.1 rfl rfl) ?_
                          refine z_getR (pc' := 110) (eI := o + 37) I g_Md_110 ao rfl (by omega) D_Md_shift_3.2.1.2.2 rfl ?_
                          have k59 : ok τ (0, 6) (o + 37) := r_Md_tapeSize hw ao (by omega)
                          refine z_s I (s_iload_n (pc' := 111) 3 rfl D_Md_shift_3.2.2.1.1 rfl rfl) ?_
                          refine z_iald (pc' := 112) (nI := 6) I k59 ax3 rfl D_Md_shift_3.2.2.1.2 rfl (fun c60 f61 => ?_)
                          refine z_s I (s_iload (pc' := 114) 5 rfl D_Md_shift_3.2.2.2.1 rfl) ?_
                          refine z_s I (s_isub (pc' := 115) D_Md_shift_3.2.2.2.2 rfl) ?_
                          refine z_icmp_le (tgt := 121) (pc' := 118) I ax4 (inR_w32 _) D_Md_shift_4.1.1.1.1 rfl rfl (fun c62 => ?_) (fun c62 => ?_)
                          · refine z_s I (s_iconst (pc' := 122) D_Md_shift_4.1.1.2.2 rfl) ?_
                            refine z_s I (s_istore (pc' := 124) (lv' := [(6, vI 0), (0, vR ad o), (1, vI x1), (2, vI x2), (3, vI x3), (4, vI x4), (5, vI x5)]) D_Md_shift_4.1.2.1.1 (by decide) rfl rfl) ?_
                            refine z_s I (s_lv (lv' := [(0, vR ad o), (1, vI x1), (2, vI x2), (3, vI x3), (4, vI x4), (5, vI x5), (6, vI 0)]) [1, 2, 3, 4, 5, 6, 0] rfl) ?_
                            exact L124 _ (b01.R bz0)
                          · refine z_s I (s_bipush (pc' := 120) D_Md_shift_4.1.1.1.2 rfl rfl) ?_
                            exact z_ret (w := some (vI (-13))) I (fun g => gk0 _ _ g (inR_c (x := (-13)) rfl)) ⟨_, rfl⟩ D_Md_shift_4.1.1.2.1 rfl
            · refine z_s I (s_bipush (pc' := 54) D_Md_shift_1.2.2.1.2 rfl rfl) ?_
              exact z_ret (w := some (vI (-12))) I (fun g => gk0 _ _ g (inR_c (x := (-12)) rfl)) ⟨_, rfl⟩ D_Md_shift_1.2.2.2.1 rfl
          · refine z_s I (s_bipush (pc' := 36) D_Md_shift_1.1.1.2.1 rfl rfl) ?_
            exact z_ret (w := some (vI (-11))) I (fun g => gk0 _ _ g (inR_c (x := (-11)) rfl)) ⟨_, rfl⟩ D_Md_shift_1.1.1.2.2 rfl
      · refine z_s I (s_iconst (pc' := 15) D_Md_shift_0.1.2.2.1 rfl) ?_
        exact z_ret (w := some (vI (-1))) I (fun g => gk0 _ _ g (inR_c (x := (-1)) rfl)) ⟨_, rfl⟩ D_Md_shift_0.1.2.2.2 rfl
  exact main _ hF (by rw [hG0])
