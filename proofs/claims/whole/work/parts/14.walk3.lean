set_option maxHeartbeats 4000000 in
set_option maxRecDepth 20000 in
theorem c_Cb_plan {l : Launch} {τ : TP} {o : Int} {x1 : Int} {x2 : Int} {x3 : Int} {h : HP} {r : Int} {h' : HP} (hw : wf τ) (ao : ok τ (4, 9) o) (ax1 : inR x1) (ax2 : inR x2) (ax3 : inR x3) (hh : hr τ h) (hF : m_Cb_plan o x1 x2 x3 h = some (r, h')) : Ctr l y_Cb_plan k_Cb_plan 4 (Option.some FieldType.int) 3 66 τ (fun ad => [vR ad o, vI x1, vI x2, vI x3]) h (some (vI r)) h' (inR r) := by
  refine ctr_of (by decide) hw hh (fun ad => Nat.le_of_ble_eq_true rfl) (fun ad K Y I hK => ?_)
  obtain ⟨G0, hG0⟩ : ∃ G : Int × HP → Prop, G = fun x => x = (r, h') := ⟨_, rfl⟩
  have gk0 : ∀ (x : Int) (y : HP), G0 (x, y) → inR x → K (some (vI x)) y := fun x y g q => by
    rw [hG0] at g
    cases g
    exact hK q
  have J57 : ∀ (h : HP), Z Y (m_Cb_plan_J57 o x1 x2 x3 h) G0 h 57 [(0, vR ad o), (1, vI x1), (2, vI x2), (3, vI x3)] [] := by
    intro h
    unfold m_Cb_plan_J57
    refine z_s I (s_aload_n (pc' := 58) 0 rfl D_Cb_plan_2.1.1.1 rfl rfl) ?_
    refine z_getR (pc' := 61) (eI := o + 1) I g_Cb_12 ao rfl (by omega) D_Cb_plan_2.1.1.2.1 rfl ?_
    have k1 : ok τ (4, 1) (o + 1) := r_Cb_now hw ao (by omega)
    refine z_getI (pc' := 64) (jI := 3) I g_Cb_320 k1 rfl rfl D_Cb_plan_2.1.1.2.2 rfl (fun f2 => ?_)
    refine z_s I (s_bipush (pc' := 66) D_Cb_plan_2.1.2.1.1 rfl rfl) ?_
    refine z_icmp_ge (tgt := 82) (pc' := 69) I f2 (inR_c (x := 8) rfl) D_Cb_plan_2.1.2.1.2 rfl rfl (fun c3 => ?_) (fun c3 => ?_)
    · refine z_s I (s_bipush (pc' := 84) D_Cb_plan_2.2.2.2.1 rfl rfl) ?_
      exact z_ret (w := some (vI (-4))) I (fun g => gk0 _ _ g (inR_c (x := (-4)) rfl)) ⟨_, rfl⟩ D_Cb_plan_2.2.2.2.2 rfl
    · refine z_s I (s_aload_n (pc' := 70) 0 rfl D_Cb_plan_2.1.2.2.1 rfl rfl) ?_
      refine z_getR (pc' := 73) (eI := o + 1) I g_Cb_12 ao rfl (by omega) D_Cb_plan_2.1.2.2.2 rfl ?_
      have k4 : ok τ (4, 1) (o + 1) := r_Cb_now hw ao (by omega)
      refine z_s I (s_iload_n (pc' := 74) 1 rfl D_Cb_plan_2.2.1.1 rfl rfl) ?_
      refine z_s I (s_iload_n (pc' := 75) 2 rfl D_Cb_plan_2.2.1.2.1 rfl rfl) ?_
      refine z_s I (s_iload_n (pc' := 76) 3 rfl D_Cb_plan_2.2.1.2.2 rfl rfl) ?_
      refine z_b2 (fun r7 h8 q6 => ?_)
      refine z_callV (pc' := 79) I mv_Exam_plans ml_Cb_327 (fun ad => [vI x1, vI x2, vI x3]) ⟨Nat.le_of_ble_eq_true rfl, Nat.le_of_ble_eq_true rfl⟩ k4 (fun hh => c_Exam_plans hw k4 ax1 ax2 ax3 hh q6) rfl rfl (Nat.le_of_ble_eq_true rfl) D_Cb_plan_2.2.2.1.1 rfl (fun f5 => ?_)
      refine z_s I (s_goto (tgt := 84) D_Cb_plan_2.2.2.1.2 rfl) ?_
      exact z_ret (w := some (vI r7)) I (fun g => gk0 _ _ g f5) ⟨_, rfl⟩ D_Cb_plan_2.2.2.2.2 rfl
  have J42 : ∀ (h : HP), Z Y (m_Cb_plan_J42 o x1 x2 x3 h) G0 h 42 [(0, vR ad o), (1, vI x1), (2, vI x2), (3, vI x3)] [] := by
    intro h
    unfold m_Cb_plan_J42
    refine z_s I (s_iload_n (pc' := 43) 1 rfl D_Cb_plan_1.2.1.1.1 rfl rfl) ?_
    refine z_s I (s_iconst (pc' := 44) D_Cb_plan_1.2.1.1.2 rfl) ?_
    refine z_icmp_ne (tgt := 57) (pc' := 47) I ax1 (inR_c (x := 2) rfl) D_Cb_plan_1.2.1.2.1 rfl rfl (fun c9 => ?_) (fun c9 => ?_)
    · exact J57 _
    · refine z_s I (s_iload_n (pc' := 48) 3 rfl D_Cb_plan_1.2.1.2.2 rfl rfl) ?_
      refine z_b1 (fun r12 q11 => ?_)
      refine z_callS (pc' := 51) I mv_Cb_isKind ml_Cb_106 (fun ad => [vI x3]) ⟨Nat.le_of_ble_eq_true rfl, Nat.le_of_ble_eq_true rfl⟩ (fun hh => c_Cb_isKind hw ax3 hh q11) rfl rfl (Nat.le_of_ble_eq_true rfl) D_Cb_plan_1.2.2.1.1 rfl (fun f10 => ?_)
      refine z_if_ne (tgt := 57) (pc' := 54) I (b01.R f10) D_Cb_plan_1.2.2.1.2 rfl rfl (fun c13 => ?_) (fun c13 => ?_)
      · exact J57 _
      · refine z_s I (s_bipush (pc' := 56) D_Cb_plan_1.2.2.2.1 rfl rfl) ?_
        exact z_ret (w := some (vI (-2))) I (fun g => gk0 _ _ g (inR_c (x := (-2)) rfl)) ⟨_, rfl⟩ D_Cb_plan_1.2.2.2.2 rfl
  have main : Z Y (m_Cb_plan o x1 x2 x3 h) G0 h 0 [(0, vR ad o), (1, vI x1), (2, vI x2), (3, vI x3)] [] := by
    unfold m_Cb_plan
    refine z_s I (s_iload_n (pc' := 1) 1 rfl D_Cb_plan_0.1.1.1.1 rfl rfl) ?_
    refine z_s I (s_iconst (pc' := 2) D_Cb_plan_0.1.1.1.2 rfl) ?_
    refine z_icmp_ne (tgt := 15) (pc' := 5) I ax1 (inR_c (x := (-1)) rfl) D_Cb_plan_0.1.1.2.1 rfl rfl (fun c14 => ?_) (fun c14 => ?_)
    · refine z_s I (s_aload_n (pc' := 16) 0 rfl D_Cb_plan_0.2.1.1.2 rfl rfl) ?_
      refine z_getR (pc' := 19) (eI := o + 1) I g_Cb_12 ao rfl (by omega) D_Cb_plan_0.2.1.2.1 rfl ?_
      have k15 : ok τ (4, 1) (o + 1) := r_Cb_now hw ao (by omega)
      refine z_s I (s_iload_n (pc' := 20) 1 rfl D_Cb_plan_0.2.1.2.2 rfl rfl) ?_
      refine z_s I (s_iload_n (pc' := 21) 2 rfl D_Cb_plan_0.2.2.1.1 rfl rfl) ?_
      refine z_s I (s_iload_n (pc' := 22) 3 rfl D_Cb_plan_0.2.2.1.2 rfl rfl) ?_
      refine z_b1 (fun r18 q17 => ?_)
      refine z_callV (pc' := 25) I mv_Exam_canPlan ml_Cb_323 (fun ad => [vI x1, vI x2, vI x3]) ⟨Nat.le_of_ble_eq_true rfl, Nat.le_of_ble_eq_true rfl⟩ k15 (fun hh => c_Exam_canPlan hw k15 ax1 ax2 ax3 hh q17) rfl rfl (Nat.le_of_ble_eq_true rfl) D_Cb_plan_0.2.2.2.1 rfl (fun f16 => ?_)
      refine z_if_ne (tgt := 30) (pc' := 28) I (b01.R f16) D_Cb_plan_0.2.2.2.2 rfl rfl (fun c19 => ?_) (fun c19 => ?_)
      · refine z_s I (s_iload_n (pc' := 31) 1 rfl D_Cb_plan_1.1.1.2.1 rfl rfl) ?_
        refine z_s I (s_iconst (pc' := 32) D_Cb_plan_1.1.1.2.2 rfl) ?_
        refine z_icmp_ne (tgt := 42) (pc' := 35) I ax1 (b01.R bz1) D_Cb_plan_1.1.2.1.1 rfl rfl (fun c20 => ?_) (fun c20 => ?_)
        · exact J42 _
        · refine z_s I (s_iload_n (pc' := 36) 3 rfl D_Cb_plan_1.1.2.1.2 rfl rfl) ?_
          refine z_b1 (fun r23 q22 => ?_)
          refine z_callS (pc' := 39) I mv_Cb_isAnswer ml_Cb_99 (fun ad => [vI x3]) ⟨Nat.le_of_ble_eq_true rfl, Nat.le_of_ble_eq_true rfl⟩ (fun hh => c_Cb_isAnswer hw ax3 hh q22) rfl rfl (Nat.le_of_ble_eq_true rfl) D_Cb_plan_1.1.2.2.1 rfl (fun f21 => ?_)
          refine z_if_eq (tgt := 54) (pc' := 42) I (b01.R f21) D_Cb_plan_1.1.2.2.2 rfl rfl (fun c24 => ?_) (fun c24 => ?_)
          · refine z_s I (s_bipush (pc' := 56) D_Cb_plan_1.2.2.2.1 rfl rfl) ?_
            exact z_ret (w := some (vI (-2))) I (fun g => gk0 _ _ g (inR_c (x := (-2)) rfl)) ⟨_, rfl⟩ D_Cb_plan_1.2.2.2.2 rfl
          · exact J42 _
      · refine z_s I (s_iconst (pc' := 29) D_Cb_plan_1.1.1.1.1 rfl) ?_
        exact z_ret (w := some (vI (-1))) I (fun g => gk0 _ _ g (inR_c (x := (-1)) rfl)) ⟨_, rfl⟩ D_Cb_plan_1.1.1.1.2 rfl
    · refine z_s I (s_aload_n (pc' := 6) 0 rfl D_Cb_plan_0.1.1.2.2 rfl rfl) ?_
      refine z_getR (pc' := 9) (eI := o + 1) I g_Cb_12 ao rfl (by omega) D_Cb_plan_0.1.2.1.1 rfl ?_
      have k25 : ok τ (4, 1) (o + 1) := r_Cb_now hw ao (by omega)
      refine z_s I (s_iconst (pc' := 10) D_Cb_plan_0.1.2.1.2 rfl) ?_
      refine z_putI (pc' := 13) (jI := 3) I p_Cb_320 k25 rfl rfl (b01.R bz0) D_Cb_plan_0.1.2.2.1 rfl ?_
      refine z_bH (fun h26 e27 => ?_)
      refine z_s I (s_iconst (pc' := 14) D_Cb_plan_0.1.2.2.2 rfl) ?_
      exact z_ret (w := some (vI 0)) I (fun g => gk0 _ _ g (b01.R bz0)) ⟨_, rfl⟩ D_Cb_plan_0.2.1.1.1 rfl
  exact main _ hF (by rw [hG0])
set_option maxHeartbeats 4000000 in
set_option maxRecDepth 20000 in
theorem c_Exam_copy {l : Launch} {τ : TP} {o : Int} {r1 : Int} {h : HP} {h' : HP} (hw : wf τ) (ao : ok τ (4, 1) o) (ar1 : ok τ (4, 1) r1) (hh : hr τ h) (hF : m_Exam_copy o r1 h = some h') : Ctr l y_Exam_copy k_Exam_copy 3 (Option.none : Option FieldType) 1 26 τ (fun ad => [vR ad o, vR ad r1]) h none h' (True) := by
  refine ctr_of (by decide) hw hh (fun ad => Nat.le_of_ble_eq_true rfl) (fun ad K Y I hK => ?_)
  obtain ⟨G0, hG0⟩ : ∃ G : HP → Prop, G = fun x => x = h' := ⟨_, rfl⟩
  have gk0 : ∀ (x : HP), G0 x → K none x := fun x g => by
    rw [hG0] at g
    cases g
    exact hK trivial
  have J127 : ∀ (h : HP), Z Y (m_Exam_copy_J127 o r1 h) G0 h 127 [(0, vR ad o), (1, vR ad r1)] [] := by
    intro h
    unfold m_Exam_copy_J127
    refine z_s I (s_aload_n (pc' := 128) 1 rfl D_Exam_copy_4.1.2.2.1 rfl rfl) ?_
    refine z_getR (pc' := 131) (eI := r1 + 21) I g_Exam_39 ar1 rfl (by omega) D_Exam_copy_4.1.2.2.2 rfl ?_
    have k1 : ok τ (0, 8) (r1 + 21) := r_Exam_row hw ar1 (by omega)
    refine z_s I (s_iconst (pc' := 132) D_Exam_copy_4.2.1.1.1 rfl) ?_
    refine z_s I (s_aload_n (pc' := 133) 0 rfl D_Exam_copy_4.2.1.1.2 rfl rfl) ?_
    refine z_getR (pc' := 136) (eI := o + 21) I g_Exam_39 ao rfl (by omega) D_Exam_copy_4.2.1.2.1 rfl ?_
    have k2 : ok τ (0, 8) (o + 21) := r_Exam_row hw ao (by omega)
    refine z_s I (s_iconst (pc' := 137) D_Exam_copy_4.2.1.2.2 rfl) ?_
    refine z_s I (s_bipush (pc' := 139) D_Exam_copy_4.2.2.1.1 rfl rfl) ?_
    refine z_g (c := 0 ≤ (0 : Int) ∧ 0 ≤ (0 : Int) ∧ 0 ≤ (8 : Int) ∧ (0 : Int) + 8 ≤ 8 ∧ (0 : Int) + 8 ≤ 8) (by decide) ?_
    refine z_icpy (pc' := 142) I k1 k2 rfl rfl (b01.R bz0) (b01.R bz0) (inR_c (x := 8) rfl) ml_Exam_78 (Nat.le_of_ble_eq_true rfl) (Nat.le_of_ble_eq_true rfl) D_Exam_copy_4.2.2.1.2 rfl ?_
    refine z_bH (fun h3 e4 => ?_)
    refine z_s I (s_aload_n (pc' := 143) 1 rfl D_Exam_copy_4.2.2.2.1 rfl rfl) ?_
    refine z_getR (pc' := 146) (eI := r1 + 22) I g_Exam_42 ar1 rfl (by omega) D_Exam_copy_4.2.2.2.2 rfl ?_
    have k5 : ok τ (0, 8) (r1 + 22) := r_Exam_place hw ar1 (by omega)
    refine z_s I (s_iconst (pc' := 147) D_Exam_copy_5.1.1.1.1 rfl) ?_
    refine z_s I (s_aload_n (pc' := 148) 0 rfl D_Exam_copy_5.1.1.1.2 rfl rfl) ?_
    refine z_getR (pc' := 151) (eI := o + 22) I g_Exam_42 ao rfl (by omega) D_Exam_copy_5.1.1.2.1 rfl ?_
    have k6 : ok τ (0, 8) (o + 22) := r_Exam_place hw ao (by omega)
    refine z_s I (s_iconst (pc' := 152) D_Exam_copy_5.1.1.2.2 rfl) ?_
    refine z_s I (s_bipush (pc' := 154) D_Exam_copy_5.1.2.1.1 rfl rfl) ?_
    refine z_g (c := 0 ≤ (0 : Int) ∧ 0 ≤ (0 : Int) ∧ 0 ≤ (8 : Int) ∧ (0 : Int) + 8 ≤ 8 ∧ (0 : Int) + 8 ≤ 8) (by decide) ?_
    refine z_icpy (pc' := 157) I k5 k6 rfl rfl (b01.R bz0) (b01.R bz0) (inR_c (x := 8) rfl) ml_Exam_78 (Nat.le_of_ble_eq_true rfl) (Nat.le_of_ble_eq_true rfl) D_Exam_copy_5.1.2.1.2 rfl ?_
    refine z_bH (fun h7 e8 => ?_)
    refine z_s I (s_aload_n (pc' := 158) 1 rfl D_Exam_copy_5.1.2.2.1 rfl rfl) ?_
    refine z_getR (pc' := 161) (eI := r1 + 23) I g_Exam_45 ar1 rfl (by omega) D_Exam_copy_5.1.2.2.2 rfl ?_
    have k9 : ok τ (0, 6) (r1 + 23) := r_Exam_used hw ar1 (by omega)
    refine z_s I (s_iconst (pc' := 162) D_Exam_copy_5.2.1.1.1 rfl) ?_
    refine z_s I (s_aload_n (pc' := 163) 0 rfl D_Exam_copy_5.2.1.1.2 rfl rfl) ?_
    refine z_getR (pc' := 166) (eI := o + 23) I g_Exam_45 ao rfl (by omega) D_Exam_copy_5.2.1.2.1 rfl ?_
    have k10 : ok τ (0, 6) (o + 23) := r_Exam_used hw ao (by omega)
    refine z_s I (s_iconst (pc' := 167) D_Exam_copy_5.2.1.2.2 rfl) ?_
    refine z_s I (s_bipush (pc' := 169) D_Exam_copy_5.2.2.1.1 rfl rfl) ?_
    refine z_g (c := 0 ≤ (0 : Int) ∧ 0 ≤ (0 : Int) ∧ 0 ≤ (6 : Int) ∧ (0 : Int) + 6 ≤ 6 ∧ (0 : Int) + 6 ≤ 6) (by decide) ?_
    refine z_icpy (pc' := 172) I k9 k10 rfl rfl (b01.R bz0) (b01.R bz0) (inR_c (x := 6) rfl) ml_Exam_78 (Nat.le_of_ble_eq_true rfl) (Nat.le_of_ble_eq_true rfl) D_Exam_copy_5.2.2.1.2 rfl ?_
    refine z_bH (fun h11 e12 => ?_)
    refine z_s I (s_aload_n (pc' := 173) 1 rfl D_Exam_copy_5.2.2.2.1 rfl rfl) ?_
    refine z_getR (pc' := 176) (eI := r1 + 24) I g_Exam_48 ar1 rfl (by omega) D_Exam_copy_5.2.2.2.2 rfl ?_
    have k13 : ok τ (0, 5) (r1 + 24) := r_Exam_seenX hw ar1 (by omega)
    refine z_s I (s_iconst (pc' := 177) D_Exam_copy_6.1.1.1.1 rfl) ?_
    refine z_s I (s_aload_n (pc' := 178) 0 rfl D_Exam_copy_6.1.1.1.2 rfl rfl) ?_
    refine z_getR (pc' := 181) (eI := o + 24) I g_Exam_48 ao rfl (by omega) D_Exam_copy_6.1.1.2.1 rfl ?_
    have k14 : ok τ (0, 5) (o + 24) := r_Exam_seenX hw ao (by omega)
    refine z_s I (s_iconst (pc' := 182) D_Exam_copy_6.1.1.2.2 rfl) ?_
    refine z_s I (s_iconst (pc' := 183) D_Exam_copy_6.1.2.1.1 rfl) ?_
    refine z_g (c := 0 ≤ (0 : Int) ∧ 0 ≤ (0 : Int) ∧ 0 ≤ (5 : Int) ∧ (0 : Int) + 5 ≤ 5 ∧ (0 : Int) + 5 ≤ 5) (by decide) ?_
    refine z_icpy (pc' := 186) I k13 k14 rfl rfl (b01.R bz0) (b01.R bz0) (inR_c (x := 5) rfl) ml_Exam_78 (Nat.le_of_ble_eq_true rfl) (Nat.le_of_ble_eq_true rfl) D_Exam_copy_6.1.2.1.2 rfl ?_
    refine z_bH (fun h15 e16 => ?_)
    refine z_s I (s_aload_n (pc' := 187) 1 rfl D_Exam_copy_6.1.2.2.1 rfl rfl) ?_
    refine z_getR (pc' := 190) (eI := r1 + 25) I g_Exam_51 ar1 rfl (by omega) D_Exam_copy_6.1.2.2.2 rfl ?_
    have k17 : ok τ (0, 5) (r1 + 25) := r_Exam_seenY hw ar1 (by omega)
    refine z_s I (s_iconst (pc' := 191) D_Exam_copy_6.2.1.1.1 rfl) ?_
    refine z_s I (s_aload_n (pc' := 192) 0 rfl D_Exam_copy_6.2.1.1.2 rfl rfl) ?_
    refine z_getR (pc' := 195) (eI := o + 25) I g_Exam_51 ao rfl (by omega) D_Exam_copy_6.2.1.2.1 rfl ?_
    have k18 : ok τ (0, 5) (o + 25) := r_Exam_seenY hw ao (by omega)
    refine z_s I (s_iconst (pc' := 196) D_Exam_copy_6.2.1.2.2 rfl) ?_
    refine z_s I (s_iconst (pc' := 197) D_Exam_copy_6.2.2.1.1 rfl) ?_
    refine z_g (c := 0 ≤ (0 : Int) ∧ 0 ≤ (0 : Int) ∧ 0 ≤ (5 : Int) ∧ (0 : Int) + 5 ≤ 5 ∧ (0 : Int) + 5 ≤ 5) (by decide) ?_
    refine z_icpy (pc' := 200) I k17 k18 rfl rfl (b01.R bz0) (b01.R bz0) (inR_c (x := 5) rfl) ml_Exam_78 (Nat.le_of_ble_eq_true rfl) (Nat.le_of_ble_eq_true rfl) D_Exam_copy_6.2.2.1.2 rfl ?_
    refine z_bH (fun h19 e20 => ?_)
    refine z_s I (s_aload_n (pc' := 201) 1 rfl D_Exam_copy_6.2.2.2.1 rfl rfl) ?_
    refine z_getR (pc' := 204) (eI := r1 + 26) I g_Exam_54 ar1 rfl (by omega) D_Exam_copy_6.2.2.2.2 rfl ?_
    have k21 : ok τ (2, 5) (r1 + 26) := r_Exam_seenIs hw ar1 (by omega)
    refine z_s I (s_iconst (pc' := 205) D_Exam_copy_7.1.1.1.1 rfl) ?_
    refine z_s I (s_aload_n (pc' := 206) 0 rfl D_Exam_copy_7.1.1.1.2 rfl rfl) ?_
    refine z_getR (pc' := 209) (eI := o + 26) I g_Exam_54 ao rfl (by omega) D_Exam_copy_7.1.1.2.1 rfl ?_
    have k22 : ok τ (2, 5) (o + 26) := r_Exam_seenIs hw ao (by omega)
    refine z_s I (s_iconst (pc' := 210) D_Exam_copy_7.1.1.2.2 rfl) ?_
    refine z_s I (s_iconst (pc' := 211) D_Exam_copy_7.1.2.1.1 rfl) ?_
    refine z_g (c := 0 ≤ (0 : Int) ∧ 0 ≤ (0 : Int) ∧ 0 ≤ (5 : Int) ∧ (0 : Int) + 5 ≤ 5 ∧ (0 : Int) + 5 ≤ 5) (by decide) ?_
    refine z_bcpy (pc' := 214) I k21 k22 rfl rfl (b01.R bz0) (b01.R bz0) (inR_c (x := 5) rfl) ml_Exam_78 (Nat.le_of_ble_eq_true rfl) (Nat.le_of_ble_eq_true rfl) D_Exam_copy_7.1.2.1.2 rfl ?_
    refine z_bH (fun h23 e24 => ?_)
    refine z_s I (s_aload_n (pc' := 215) 1 rfl D_Exam_copy_7.1.2.2.1 rfl rfl) ?_
    refine z_getR (pc' := 218) (eI := r1 + 27) I g_Exam_58 ar1 rfl (by omega) D_Exam_copy_7.1.2.2.2 rfl ?_
    have k25 : ok τ (0, 8) (r1 + 27) := r_Exam_planWhat hw ar1 (by omega)
    refine z_s I (s_iconst (pc' := 219) D_Exam_copy_7.2.1.1.1 rfl) ?_
    refine z_s I (s_aload_n (pc' := 220) 0 rfl D_Exam_copy_7.2.1.1.2 rfl rfl) ?_
    refine z_getR (pc' := 223) (eI := o + 27) I g_Exam_58 ao rfl (by omega) D_Exam_copy_7.2.1.2.1 rfl ?_
    have k26 : ok τ (0, 8) (o + 27) := r_Exam_planWhat hw ao (by omega)
    refine z_s I (s_iconst (pc' := 224) D_Exam_copy_7.2.1.2.2 rfl) ?_
    refine z_s I (s_bipush (pc' := 226) D_Exam_copy_7.2.2.1.1 rfl rfl) ?_
    refine z_g (c := 0 ≤ (0 : Int) ∧ 0 ≤ (0 : Int) ∧ 0 ≤ (8 : Int) ∧ (0 : Int) + 8 ≤ 8 ∧ (0 : Int) + 8 ≤ 8) (by decide) ?_
    refine z_icpy (pc' := 229) I k25 k26 rfl rfl (b01.R bz0) (b01.R bz0) (inR_c (x := 8) rfl) ml_Exam_78 (Nat.le_of_ble_eq_true rfl) (Nat.le_of_ble_eq_true rfl) D_Exam_copy_7.2.2.1.2 rfl ?_
    refine z_bH (fun h27 e28 => ?_)
    refine z_s I (s_aload_n (pc' := 230) 1 rfl D_Exam_copy_7.2.2.2.1 rfl rfl) ?_
    refine z_getR (pc' := 233) (eI := r1 + 28) I g_Exam_61 ar1 rfl (by omega) D_Exam_copy_7.2.2.2.2 rfl ?_
    have k29 : ok τ (0, 8) (r1 + 28) := r_Exam_planK hw ar1 (by omega)
    refine z_s I (s_iconst (pc' := 234) D_Exam_copy_8.1.1.1 rfl) ?_
    refine z_s I (s_aload_n (pc' := 235) 0 rfl D_Exam_copy_8.1.1.2.1 rfl rfl) ?_
    refine z_getR (pc' := 238) (eI := o + 28) I g_Exam_61 ao rfl (by omega) D_Exam_copy_8.1.1.2.2 rfl ?_
    have k30 : ok τ (0, 8) (o + 28) := r_Exam_planK hw ao (by omega)
    refine z_s I (s_iconst (pc' := 239) D_Exam_copy_8.1.2.1.1 rfl) ?_
    refine z_s I (s_bipush (pc' := 241) D_Exam_copy_8.1.2.1.2 rfl rfl) ?_
    refine z_g (c := 0 ≤ (0 : Int) ∧ 0 ≤ (0 : Int) ∧ 0 ≤ (8 : Int) ∧ (0 : Int) + 8 ≤ 8 ∧ (0 : Int) + 8 ≤ 8) (by decide) ?_
    refine z_icpy (pc' := 244) I k29 k30 rfl rfl (b01.R bz0) (b01.R bz0) (inR_c (x := 8) rfl) ml_Exam_78 (Nat.le_of_ble_eq_true rfl) (Nat.le_of_ble_eq_true rfl) D_Exam_copy_8.1.2.2.1 rfl ?_
    refine z_bH (fun h31 e32 => ?_)
    refine z_s I (s_aload_n (pc' := 245) 1 rfl D_Exam_copy_8.1.2.2.2 rfl rfl) ?_
    refine z_getR (pc' := 248) (eI := r1 + 29) I g_Exam_64 ar1 rfl (by omega) D_Exam_copy_8.2.1.1.1 rfl ?_
    have k33 : ok τ (0, 8) (r1 + 29) := r_Exam_planV hw ar1 (by omega)
    refine z_s I (s_iconst (pc' := 249) D_Exam_copy_8.2.1.1.2 rfl) ?_
    refine z_s I (s_aload_n (pc' := 250) 0 rfl D_Exam_copy_8.2.1.2.1 rfl rfl) ?_
    refine z_getR (pc' := 253) (eI := o + 29) I g_Exam_64 ao rfl (by omega) D_Exam_copy_8.2.1.2.2 rfl ?_
    have k34 : ok τ (0, 8) (o + 29) := r_Exam_planV hw ao (by omega)
    refine z_s I (s_iconst (pc' := 254) D_Exam_copy_8.2.2.1.1 rfl) ?_
    refine z_s I (s_bipush (pc' := 256) D_Exam_copy_8.2.2.1.2 rfl rfl) ?_
    refine z_g (c := 0 ≤ (0 : Int) ∧ 0 ≤ (0 : Int) ∧ 0 ≤ (8 : Int) ∧ (0 : Int) + 8 ≤ 8 ∧ (0 : Int) + 8 ≤ 8) (by decide) ?_
    refine z_icpy (pc' := 259) I k33 k34 rfl rfl (b01.R bz0) (b01.R bz0) (inR_c (x := 8) rfl) ml_Exam_78 (Nat.le_of_ble_eq_true rfl) (Nat.le_of_ble_eq_true rfl) D_Exam_copy_8.2.2.2.1 rfl ?_
    refine z_bH (fun h35 e36 => ?_)
    exact z_ret (w := none) I (fun g => gk0 _ g) rfl D_Exam_copy_8.2.2.2.2 rfl
  have L96 : ∀ (s : Int × HP), (inR (s.1)) → Z Y (m_Exam_copy_L96 o r1 s) G0 (s.2) 96 [(0, vR ad o), (1, vR ad r1), (2, vI (s.1))] [] := by
    intro s hs
    refine z_loop (G := G0) (hO := fun s : Int × HP => s.2) (lO := fun s : Int × HP => [(0, vR ad o), (1, vR ad r1), (2, vI (s.1))]) (Φ := fun s : Int × HP => inR (s.1)) (fun G1 hin1_1 hout1 s hs => ?_) FUEL s hs
    obtain ⟨x2, h⟩ := s
    have ax2 := hs
    have gk1 := fun (x : HP) (g : G1 (.inr (x))) => gk0 x (hout1 _ g)
    show Z Y (m_Exam_copy_L96b o r1 x2 h) G1 h 96 [(0, vR ad o), (1, vR ad r1), (2, vI x2)] []
    unfold m_Exam_copy_L96b
    refine z_s I (s_iload_n (pc' := 97) 2 rfl D_Exam_copy_3.1.2.1.2 rfl rfl) ?_
    refine z_s I (s_bipush (pc' := 99) D_Exam_copy_3.1.2.2.1 rfl rfl) ?_
    refine z_icmp_ge (tgt := 127) (pc' := 102) I ax2 (inR_c (x := 8) rfl) D_Exam_copy_3.1.2.2.2 rfl rfl (fun c37 => ?_) (fun c37 => ?_)
    · refine z_map _ (fun x g => hout1 x g) ?_
      refine z_s I (s_lv (lv' := [(0, vR ad o), (1, vR ad r1)]) [0, 1] rfl) ?_
      exact J127 _
    · refine z_s I (s_aload_n (pc' := 103) 1 rfl D_Exam_copy_3.2.1.1.1 rfl rfl) ?_
      refine z_getR (pc' := 106) (eI := r1 + 12) I g_Exam_36 ar1 rfl (by omega) D_Exam_copy_3.2.1.1.2 rfl ?_
      have k38 : ok τ (3, 1) (r1 + 12) := r_Exam_given hw ar1 (by omega)
      refine z_s I (s_iload_n (pc' := 107) 2 rfl D_Exam_copy_3.2.1.2.1 rfl rfl) ?_
      refine z_aald (pc' := 108) (eI := r1 + x2 + 13) I 8 1 1 k38 ax2 rfl rfl rfl (by omega) D_Exam_copy_3.2.1.2.2 rfl (fun c39 => ?_)
      have k40 : ok τ (0, 8) (r1 + x2 + 13) := e_1 hw k38 c39 (by omega)
      refine z_s I (s_iconst (pc' := 109) D_Exam_copy_3.2.2.1.1 rfl) ?_
      refine z_s I (s_aload_n (pc' := 110) 0 rfl D_Exam_copy_3.2.2.1.2 rfl rfl) ?_
      refine z_getR (pc' := 113) (eI := o + 12) I g_Exam_36 ao rfl (by omega) D_Exam_copy_3.2.2.2.1 rfl ?_
      have k41 : ok τ (3, 1) (o + 12) := r_Exam_given hw ao (by omega)
      refine z_s I (s_iload_n (pc' := 114) 2 rfl D_Exam_copy_3.2.2.2.2 rfl rfl) ?_
      refine z_aald (pc' := 115) (eI := o + x2 + 13) I 8 1 1 k41 ax2 rfl rfl rfl (by omega) D_Exam_copy_4.1.1.1.1 rfl (fun c42 => ?_)
      have k43 : ok τ (0, 8) (o + x2 + 13) := e_1 hw k41 c42 (by omega)
      refine z_s I (s_iconst (pc' := 116) D_Exam_copy_4.1.1.1.2 rfl) ?_
      refine z_s I (s_bipush (pc' := 118) D_Exam_copy_4.1.1.2.1 rfl rfl) ?_
      refine z_g (c := 0 ≤ (0 : Int) ∧ 0 ≤ (0 : Int) ∧ 0 ≤ (8 : Int) ∧ (0 : Int) + 8 ≤ 8 ∧ (0 : Int) + 8 ≤ 8) (by decide) ?_
      refine z_icpy (pc' := 121) I k40 k43 rfl rfl (b01.R bz0) (b01.R bz0) (inR_c (x := 8) rfl) ml_Exam_78 (Nat.le_of_ble_eq_true rfl) (Nat.le_of_ble_eq_true rfl) D_Exam_copy_4.1.1.2.2 rfl ?_
      refine z_bH (fun h44 e45 => ?_)
      refine z_s I (s_iinc (pc' := 124) (lv' := [(2, vI (w32 (x2 + 1))), (0, vR ad o), (1, vR ad r1)]) (n := 2) rfl D_Exam_copy_4.1.2.1.1 (by decide) rfl rfl) ?_
      refine z_s I (s_goto (tgt := 96) D_Exam_copy_4.1.2.1.2 rfl) ?_
      refine z_s I (s_lv (lv' := [(0, vR ad o), (1, vR ad r1), (2, vI (w32 (x2 + 1)))]) [1, 2, 0] rfl) ?_
      exact z_end (fun g => hin1_1 _ g (inR_w32 _))
  have L64 : ∀ (s : Int × HP), (inR (s.1)) → Z Y (m_Exam_copy_L64 o r1 s) G0 (s.2) 64 [(0, vR ad o), (1, vR ad r1), (2, vI (s.1))] [] := by
    intro s hs
    refine z_loop (G := G0) (hO := fun s : Int × HP => s.2) (lO := fun s : Int × HP => [(0, vR ad o), (1, vR ad r1), (2, vI (s.1))]) (Φ := fun s : Int × HP => inR (s.1)) (fun G1 hin1_1 hout1 s hs => ?_) FUEL s hs
    obtain ⟨x2, h⟩ := s
    have ax2 := hs
    have gk1 := fun (x : HP) (g : G1 (.inr (x))) => gk0 x (hout1 _ g)
    show Z Y (m_Exam_copy_L64b o r1 x2 h) G1 h 64 [(0, vR ad o), (1, vR ad r1), (2, vI x2)] []
    unfold m_Exam_copy_L64b
    refine z_s I (s_iload_n (pc' := 65) 2 rfl D_Exam_copy_2.1.1.2.1 rfl rfl) ?_
    refine z_s I (s_bipush (pc' := 67) D_Exam_copy_2.1.1.2.2 rfl rfl) ?_
    refine z_icmp_ge (tgt := 94) (pc' := 70) I ax2 (inR_c (x := 8) rfl) D_Exam_copy_2.1.2.1.1 rfl rfl (fun c46 => ?_) (fun c46 => ?_)
    · refine z_s I (s_iconst (pc' := 95) D_Exam_copy_3.1.1.2.2 rfl) ?_
      refine z_s I (s_istore_n (pc' := 96) (lv' := [(2, vI 0), (0, vR ad o), (1, vR ad r1)]) D_Exam_copy_3.1.2.1.1 rfl (by decide) rfl rfl) ?_
      refine z_map _ (fun x g => hout1 x g) ?_
      refine z_s I (s_lv (lv' := [(0, vR ad o), (1, vR ad r1), (2, vI 0)]) [1, 2, 0] rfl) ?_
      exact L96 _ (b01.R bz0)
    · refine z_s I (s_aload_n (pc' := 71) 1 rfl D_Exam_copy_2.1.2.1.2 rfl rfl) ?_
      refine z_getR (pc' := 74) (eI := r1 + 3) I g_Exam_33 ar1 rfl (by omega) D_Exam_copy_2.1.2.2.1 rfl ?_
      have k47 : ok τ (3, 0) (r1 + 3) := r_Exam_parts hw ar1 (by omega)
      refine z_s I (s_iload_n (pc' := 75) 2 rfl D_Exam_copy_2.1.2.2.2 rfl rfl) ?_
      refine z_aald (pc' := 76) (eI := r1 + x2 + 4) I 8 1 1 k47 ax2 rfl rfl rfl (by omega) D_Exam_copy_2.2.1.1.1 rfl (fun c48 => ?_)
      have k49 : ok τ (0, 4) (r1 + x2 + 4) := e_0 hw k47 c48 (by omega)
      refine z_s I (s_iconst (pc' := 77) D_Exam_copy_2.2.1.1.2 rfl) ?_
      refine z_s I (s_aload_n (pc' := 78) 0 rfl D_Exam_copy_2.2.1.2.1 rfl rfl) ?_
      refine z_getR (pc' := 81) (eI := o + 3) I g_Exam_33 ao rfl (by omega) D_Exam_copy_2.2.1.2.2 rfl ?_
      have k50 : ok τ (3, 0) (o + 3) := r_Exam_parts hw ao (by omega)
      refine z_s I (s_iload_n (pc' := 82) 2 rfl D_Exam_copy_2.2.2.1.1 rfl rfl) ?_
      refine z_aald (pc' := 83) (eI := o + x2 + 4) I 8 1 1 k50 ax2 rfl rfl rfl (by omega) D_Exam_copy_2.2.2.1.2 rfl (fun c51 => ?_)
      have k52 : ok τ (0, 4) (o + x2 + 4) := e_0 hw k50 c51 (by omega)
      refine z_s I (s_iconst (pc' := 84) D_Exam_copy_2.2.2.2.1 rfl) ?_
      refine z_s I (s_iconst (pc' := 85) D_Exam_copy_2.2.2.2.2 rfl) ?_
      refine z_g (c := 0 ≤ (0 : Int) ∧ 0 ≤ (0 : Int) ∧ 0 ≤ (4 : Int) ∧ (0 : Int) + 4 ≤ 4 ∧ (0 : Int) + 4 ≤ 4) (by decide) ?_
      refine z_icpy (pc' := 88) I k49 k52 rfl rfl (b01.R bz0) (b01.R bz0) (inR_c (x := 4) rfl) ml_Exam_78 (Nat.le_of_ble_eq_true rfl) (Nat.le_of_ble_eq_true rfl) D_Exam_copy_3.1.1.1.1 rfl ?_
      refine z_bH (fun h53 e54 => ?_)
      refine z_s I (s_iinc (pc' := 91) (lv' := [(2, vI (w32 (x2 + 1))), (0, vR ad o), (1, vR ad r1)]) (n := 2) rfl D_Exam_copy_3.1.1.1.2 (by decide) rfl rfl) ?_
      refine z_s I (s_goto (tgt := 64) D_Exam_copy_3.1.1.2.1 rfl) ?_
      refine z_s I (s_lv (lv' := [(0, vR ad o), (1, vR ad r1), (2, vI (w32 (x2 + 1)))]) [1, 2, 0] rfl) ?_
      exact z_end (fun g => hin1_1 _ g (inR_w32 _))
  have main : Z Y (m_Exam_copy o r1 h) G0 h 0 [(0, vR ad o), (1, vR ad r1)] [] := by
    unfold m_Exam_copy
    refine z_s I (s_aload_n (pc' := 1) 0 rfl D_Exam_copy_0.1.1.1.1 rfl rfl) ?_
    refine z_s I (s_aload_n (pc' := 2) 1 rfl D_Exam_copy_0.1.1.1.2 rfl rfl) ?_
    refine z_getI (pc' := 5) (jI := 0) I g_Exam_9 ar1 rfl rfl D_Exam_copy_0.1.1.2.1 rfl (fun f55 => ?_)
    refine z_putI (pc' := 8) (jI := 0) I p_Exam_9 ao rfl rfl f55 D_Exam_copy_0.1.1.2.2 rfl ?_
    refine z_bH (fun h56 e57 => ?_)
    refine z_s I (s_aload_n (pc' := 9) 0 rfl D_Exam_copy_0.1.2.1.1 rfl rfl) ?_
    refine z_s I (s_aload_n (pc' := 10) 1 rfl D_Exam_copy_0.1.2.1.2 rfl rfl) ?_
    refine z_getI (pc' := 13) (jI := 1) I g_Exam_15 ar1 rfl rfl D_Exam_copy_0.1.2.2.1 rfl (fun f58 => ?_)
    refine z_putI (pc' := 16) (jI := 1) I p_Exam_15 ao rfl rfl f58 D_Exam_copy_0.1.2.2.2 rfl ?_
    refine z_bH (fun h59 e60 => ?_)
    refine z_s I (s_aload_n (pc' := 17) 0 rfl D_Exam_copy_0.2.1.1.1 rfl rfl) ?_
    refine z_s I (s_aload_n (pc' := 18) 1 rfl D_Exam_copy_0.2.1.1.2 rfl rfl) ?_
    refine z_getI (pc' := 21) (jI := 2) I g_Exam_18 ar1 rfl rfl D_Exam_copy_0.2.1.2.1 rfl (fun f61 => ?_)
    refine z_putI (pc' := 24) (jI := 2) I p_Exam_18 ao rfl rfl f61 D_Exam_copy_0.2.1.2.2 rfl ?_
    refine z_bH (fun h62 e63 => ?_)
    refine z_s I (s_aload_n (pc' := 25) 0 rfl D_Exam_copy_0.2.2.1.1 rfl rfl) ?_
    refine z_s I (s_aload_n (pc' := 26) 1 rfl D_Exam_copy_0.2.2.1.2 rfl rfl) ?_
    refine z_getI (pc' := 29) (jI := 3) I g_Exam_21 ar1 rfl rfl D_Exam_copy_0.2.2.2.1 rfl (fun f64 => ?_)
    refine z_putI (pc' := 32) (jI := 3) I p_Exam_21 ao rfl rfl f64 D_Exam_copy_0.2.2.2.2 rfl ?_
    refine z_bH (fun h65 e66 => ?_)
    refine z_s I (s_aload_n (pc' := 33) 1 rfl D_Exam_copy_1.1.1.1.1 rfl rfl) ?_
    refine z_getR (pc' := 36) (eI := r1 + 1) I g_Exam_24 ar1 rfl (by omega) D_Exam_copy_1.1.1.1.2 rfl ?_
    have k67 : ok τ (0, 8) (r1 + 1) := r_Exam_key hw ar1 (by omega)
    refine z_s I (s_iconst (pc' := 37) D_Exam_copy_1.1.1.2.1 rfl) ?_
    refine z_s I (s_aload_n (pc' := 38) 0 rfl D_Exam_copy_1.1.1.2.2 rfl rfl) ?_
    refine z_getR (pc' := 41) (eI := o + 1) I g_Exam_24 ao rfl (by omega) D_Exam_copy_1.1.2.1.1 rfl ?_
    have k68 : ok τ (0, 8) (o + 1) := r_Exam_key hw ao (by omega)
    refine z_s I (s_iconst (pc' := 42) D_Exam_copy_1.1.2.1.2 rfl) ?_
    refine z_s I (s_bipush (pc' := 44) D_Exam_copy_1.1.2.2.1 rfl rfl) ?_
    refine z_g (c := 0 ≤ (0 : Int) ∧ 0 ≤ (0 : Int) ∧ 0 ≤ (8 : Int) ∧ (0 : Int) + 8 ≤ 8 ∧ (0 : Int) + 8 ≤ 8) (by decide) ?_
    refine z_icpy (pc' := 47) I k67 k68 rfl rfl (b01.R bz0) (b01.R bz0) (inR_c (x := 8) rfl) ml_Exam_78 (Nat.le_of_ble_eq_true rfl) (Nat.le_of_ble_eq_true rfl) D_Exam_copy_1.1.2.2.2 rfl ?_
    refine z_bH (fun h69 e70 => ?_)
    refine z_s I (s_aload_n (pc' := 48) 1 rfl D_Exam_copy_1.2.1.1.1 rfl rfl) ?_
    refine z_getR (pc' := 51) (eI := r1 + 2) I g_Exam_28 ar1 rfl (by omega) D_Exam_copy_1.2.1.1.2 rfl ?_
    have k71 : ok τ (0, 8) (r1 + 2) := r_Exam_kind hw ar1 (by omega)
    refine z_s I (s_iconst (pc' := 52) D_Exam_copy_1.2.1.2.1 rfl) ?_
    refine z_s I (s_aload_n (pc' := 53) 0 rfl D_Exam_copy_1.2.1.2.2 rfl rfl) ?_
    refine z_getR (pc' := 56) (eI := o + 2) I g_Exam_28 ao rfl (by omega) D_Exam_copy_1.2.2.1.1 rfl ?_
    have k72 : ok τ (0, 8) (o + 2) := r_Exam_kind hw ao (by omega)
    refine z_s I (s_iconst (pc' := 57) D_Exam_copy_1.2.2.1.2 rfl) ?_
    refine z_s I (s_bipush (pc' := 59) D_Exam_copy_1.2.2.2.1 rfl rfl) ?_
    refine z_g (c := 0 ≤ (0 : Int) ∧ 0 ≤ (0 : Int) ∧ 0 ≤ (8 : Int) ∧ (0 : Int) + 8 ≤ 8 ∧ (0 : Int) + 8 ≤ 8) (by decide) ?_
    refine z_icpy (pc' := 62) I k71 k72 rfl rfl (b01.R bz0) (b01.R bz0) (inR_c (x := 8) rfl) ml_Exam_78 (Nat.le_of_ble_eq_true rfl) (Nat.le_of_ble_eq_true rfl) D_Exam_copy_1.2.2.2.2 rfl ?_
    refine z_bH (fun h73 e74 => ?_)
    refine z_s I (s_iconst (pc' := 63) D_Exam_copy_2.1.1.1.1 rfl) ?_
    refine z_s I (s_istore_n (pc' := 64) (lv' := [(2, vI 0), (0, vR ad o), (1, vR ad r1)]) D_Exam_copy_2.1.1.1.2 rfl (by decide) rfl rfl) ?_
    refine z_s I (s_lv (lv' := [(0, vR ad o), (1, vR ad r1), (2, vI 0)]) [1, 2, 0] rfl) ?_
    exact L64 _ (b01.R bz0)
  exact main _ hF (by rw [hG0])
set_option maxHeartbeats 4000000 in
set_option maxRecDepth 20000 in
theorem c_Exam_follow {l : Launch} {τ : TP} {o : Int} {x1 : Int} {x2 : Int} {x3 : Int} {h : HP} {h' : HP} (hw : wf τ) (ao : ok τ (4, 1) o) (ax1 : inR x1) (ax2 : inR x2) (ax3 : inR x3) (hh : hr τ h) (hF : m_Exam_follow o x1 x2 x3 h = some h') : Ctr l y_Exam_follow k_Exam_follow 4 (Option.none : Option FieldType) 3 66 τ (fun ad => [vR ad o, vI x1, vI x2, vI x3]) h none h' (True) := by
  refine ctr_of (by decide) hw hh (fun ad => Nat.le_of_ble_eq_true rfl) (fun ad K Y I hK => ?_)
  obtain ⟨G0, hG0⟩ : ∃ G : HP → Prop, G = fun x => x = h' := ⟨_, rfl⟩
  have gk0 : ∀ (x : HP), G0 x → K none x := fun x g => by
    rw [hG0] at g
    cases g
    exact hK trivial
  have main : Z Y (m_Exam_follow o x1 x2 x3 h) G0 h 0 [(0, vR ad o), (1, vI x1), (2, vI x2), (3, vI x3)] [] := by
    unfold m_Exam_follow
    refine z_s I (s_aload_n (pc' := 1) 0 rfl D_Exam_follow_0.1.1.1.1 rfl rfl) ?_
    refine z_s I (s_iload_n (pc' := 2) 1 rfl D_Exam_follow_0.1.1.1.2 rfl rfl) ?_
    refine z_s I (s_iload_n (pc' := 3) 2 rfl D_Exam_follow_0.1.1.2.1 rfl rfl) ?_
    refine z_s I (s_iload_n (pc' := 4) 3 rfl D_Exam_follow_0.1.1.2.2 rfl rfl) ?_
    refine z_b1 (fun r3 q2 => ?_)
    refine z_callV (pc' := 7) I mv_Exam_canPlan ml_Exam_131 (fun ad => [vI x1, vI x2, vI x3]) ⟨Nat.le_of_ble_eq_true rfl, Nat.le_of_ble_eq_true rfl⟩ ao (fun hh => c_Exam_canPlan hw ao ax1 ax2 ax3 hh q2) rfl rfl (Nat.le_of_ble_eq_true rfl) D_Exam_follow_0.1.2.1.1 rfl (fun f1 => ?_)
    refine z_if_ne (tgt := 11) (pc' := 10) I (b01.R f1) D_Exam_follow_0.1.2.1.2 rfl rfl (fun c4 => ?_) (fun c4 => ?_)
    · refine z_s I (s_iload_n (pc' := 12) 1 rfl D_Exam_follow_0.1.2.2.2 rfl rfl) ?_
      refine z_tin (tgt := 40) I ax1 D_Exam_follow_0.2.1.1.1 0 ⟨by decide, by decide⟩ rfl rfl (fun c5 => ?_) (fun c5 => ?_)
      · refine z_s I (s_aload_n (pc' := 41) 0 rfl D_Exam_follow_0.2.1.1.2 rfl rfl) ?_
        refine z_s I (s_iload_n (pc' := 42) 2 rfl D_Exam_follow_0.2.1.2.1 rfl rfl) ?_
        refine z_b1 (fun h8 q7 => ?_)
        refine z_callV (pc' := 45) I mv_Exam_leaveBlank ml_Exam_71 (fun ad => [vI x2]) ⟨Nat.le_of_ble_eq_true rfl, Nat.le_of_ble_eq_true rfl⟩ ao (fun hh => c_Exam_leaveBlank hw ao ax2 hh q7) rfl rfl (Nat.le_of_ble_eq_true rfl) D_Exam_follow_0.2.1.2.2 rfl (fun f6 => ?_)
        refine z_s I (s_goto (tgt := 87) D_Exam_follow_0.2.2.1.1 rfl) ?_
        exact z_ret (w := none) I (fun g => gk0 _ g) rfl D_Exam_follow_2.2.2.2 rfl
      · skip
        refine z_tin (tgt := 48) I ax1 D_Exam_follow_0.2.1.1.1 1 ⟨by decide, by decide⟩ rfl rfl (fun c9 => ?_) (fun c9 => ?_)
        · refine z_s I (s_aload_n (pc' := 49) 0 rfl D_Exam_follow_0.2.2.1.2 rfl rfl) ?_
          refine z_getR (pc' := 52) (eI := o + 1) I g_Exam_24 ao rfl (by omega) D_Exam_follow_0.2.2.2.1 rfl ?_
          have k10 : ok τ (0, 8) (o + 1) := r_Exam_key hw ao (by omega)
          refine z_s I (s_iload_n (pc' := 53) 2 rfl D_Exam_follow_0.2.2.2.2 rfl rfl) ?_
          refine z_s I (s_iload_n (pc' := 54) 3 rfl D_Exam_follow_1.1.1.1.1 rfl rfl) ?_
          refine z_iast (pc' := 55) (nI := 8) I k10 ax2 ax3 rfl D_Exam_follow_1.1.1.1.2 rfl (fun c11 => ?_)
          refine z_bH (fun h12 e13 => ?_)
          refine z_s I (s_goto (tgt := 87) D_Exam_follow_1.1.1.2.1 rfl) ?_
          exact z_ret (w := none) I (fun g => gk0 _ g) rfl D_Exam_follow_2.2.2.2 rfl
        · skip
          refine z_tin (tgt := 58) I ax1 D_Exam_follow_0.2.1.1.1 2 ⟨by decide, by decide⟩ rfl rfl (fun c14 => ?_) (fun c14 => ?_)
          · refine z_s I (s_aload_n (pc' := 59) 0 rfl D_Exam_follow_1.1.1.2.2 rfl rfl) ?_
            refine z_getR (pc' := 62) (eI := o + 2) I g_Exam_28 ao rfl (by omega) D_Exam_follow_1.1.2.1.1 rfl ?_
            have k15 : ok τ (0, 8) (o + 2) := r_Exam_kind hw ao (by omega)
            refine z_s I (s_iload_n (pc' := 63) 2 rfl D_Exam_follow_1.1.2.1.2 rfl rfl) ?_
            refine z_s I (s_iload_n (pc' := 64) 3 rfl D_Exam_follow_1.1.2.2.1 rfl rfl) ?_
            refine z_iast (pc' := 65) (nI := 8) I k15 ax2 ax3 rfl D_Exam_follow_1.1.2.2.2 rfl (fun c16 => ?_)
            refine z_bH (fun h17 e18 => ?_)
            refine z_s I (s_goto (tgt := 87) D_Exam_follow_1.2.1.1.1 rfl) ?_
            exact z_ret (w := none) I (fun g => gk0 _ g) rfl D_Exam_follow_2.2.2.2 rfl
          · skip
            refine z_tout (tgt := 68) I ax1 D_Exam_follow_0.2.1.1.1 (by omega) rfl ?_
            refine z_s I (s_aload_n (pc' := 69) 0 rfl D_Exam_follow_1.2.1.1.2 rfl rfl) ?_
            refine z_getR (pc' := 72) (eI := o + 12) I g_Exam_36 ao rfl (by omega) D_Exam_follow_1.2.1.2.1 rfl ?_
            have k19 : ok τ (3, 1) (o + 12) := r_Exam_given hw ao (by omega)
            refine z_s I (s_iload_n (pc' := 73) 3 rfl D_Exam_follow_1.2.1.2.2 rfl rfl) ?_
            refine z_aald (pc' := 74) (eI := o + x3 + 13) I 8 1 1 k19 ax3 rfl rfl rfl (by omega) D_Exam_follow_1.2.2.1.1 rfl (fun c20 => ?_)
            have k21 : ok τ (0, 8) (o + x3 + 13) := e_1 hw k19 c20 (by omega)
            refine z_s I (s_iconst (pc' := 75) D_Exam_follow_1.2.2.1.2 rfl) ?_
            refine z_s I (s_aload_n (pc' := 76) 0 rfl D_Exam_follow_1.2.2.2.1 rfl rfl) ?_
            refine z_getR (pc' := 79) (eI := o + 12) I g_Exam_36 ao rfl (by omega) D_Exam_follow_1.2.2.2.2 rfl ?_
            have k22 : ok τ (3, 1) (o + 12) := r_Exam_given hw ao (by omega)
            refine z_s I (s_iload_n (pc' := 80) 2 rfl D_Exam_follow_2.1.1 rfl rfl) ?_
            refine z_aald (pc' := 81) (eI := o + x2 + 13) I 8 1 1 k22 ax2 rfl rfl rfl (by omega) D_Exam_follow_2.1.2.1 rfl (fun c23 => ?_)
            have k24 : ok τ (0, 8) (o + x2 + 13) := e_1 hw k22 c23 (by omega)
            refine z_s I (s_iconst (pc' := 82) D_Exam_follow_2.1.2.2 rfl) ?_
            refine z_s I (s_bipush (pc' := 84) D_Exam_follow_2.2.1 rfl rfl) ?_
            refine z_g (c := 0 ≤ (0 : Int) ∧ 0 ≤ (0 : Int) ∧ 0 ≤ (8 : Int) ∧ (0 : Int) + 8 ≤ 8 ∧ (0 : Int) + 8 ≤ 8) (by decide) ?_
            refine z_icpy (pc' := 87) I k21 k24 rfl rfl (b01.R bz0) (b01.R bz0) (inR_c (x := 8) rfl) ml_Exam_78 (Nat.le_of_ble_eq_true rfl) (Nat.le_of_ble_eq_true rfl) D_Exam_follow_2.2.2.1 rfl ?_
            refine z_bH (fun h25 e26 => ?_)
            exact z_ret (w := none) I (fun g => gk0 _ g) rfl D_Exam_follow_2.2.2.2 rfl
    · exact z_ret (w := none) I (fun g => gk0 _ g) rfl D_Exam_follow_0.1.2.2.1 rfl
  exact main _ hF (by rw [hG0])
set_option maxHeartbeats 4000000 in
set_option maxRecDepth 20000 in
theorem c_Exam_followPlan {l : Launch} {τ : TP} {o : Int} {h : HP} {h' : HP} (hw : wf τ) (ao : ok τ (4, 1) o) (hh : hr τ h) (hF : m_Exam_followPlan o h = some h') : Ctr l y_Exam_followPlan k_Exam_followPlan 2 (Option.none : Option FieldType) 4 89 τ (fun ad => [vR ad o]) h none h' (True) := by
  refine ctr_of (by decide) hw hh (fun ad => Nat.le_of_ble_eq_true rfl) (fun ad K Y I hK => ?_)
  obtain ⟨G0, hG0⟩ : ∃ G : HP → Prop, G = fun x => x = h' := ⟨_, rfl⟩
  have gk0 : ∀ (x : HP), G0 x → K none x := fun x g => by
    rw [hG0] at g
    cases g
    exact hK trivial
  have L2 : ∀ (s : Int × HP), (inR (s.1)) → Z Y (m_Exam_followPlan_L2 o s) G0 (s.2) 2 [(0, vR ad o), (1, vI (s.1))] [] := by
    intro s hs
    refine z_loop (G := G0) (hO := fun s : Int × HP => s.2) (lO := fun s : Int × HP => [(0, vR ad o), (1, vI (s.1))]) (Φ := fun s : Int × HP => inR (s.1)) (fun G1 hin1_1 hout1 s hs => ?_) FUEL s hs
    obtain ⟨x1, h⟩ := s
    have ax1 := hs
    have gk1 := fun (x : HP) (g : G1 (.inr (x))) => gk0 x (hout1 _ g)
    show Z Y (m_Exam_followPlan_L2b o x1 h) G1 h 2 [(0, vR ad o), (1, vI x1)] []
    unfold m_Exam_followPlan_L2b
    refine z_s I (s_iload_n (pc' := 3) 1 rfl D_Exam_followPlan_0.1.1.2.1 rfl rfl) ?_
    refine z_s I (s_aload_n (pc' := 4) 0 rfl D_Exam_followPlan_0.1.1.2.2 rfl rfl) ?_
    refine z_getI (pc' := 7) (jI := 3) I g_Exam_21 ao rfl rfl D_Exam_followPlan_0.1.2.1.1 rfl (fun f1 => ?_)
    refine z_icmp_ge (tgt := 38) (pc' := 10) I ax1 f1 D_Exam_followPlan_0.1.2.1.2 rfl rfl (fun c2 => ?_) (fun c2 => ?_)
    · exact z_ret (w := none) I (fun g => gk1 _ g) rfl D_Exam_followPlan_1.2.2.2 rfl
    · refine z_s I (s_aload_n (pc' := 11) 0 rfl D_Exam_followPlan_0.1.2.2.1 rfl rfl) ?_
      refine z_s I (s_aload_n (pc' := 12) 0 rfl D_Exam_followPlan_0.1.2.2.2 rfl rfl) ?_
      refine z_getR (pc' := 15) (eI := o + 27) I g_Exam_58 ao rfl (by omega) D_Exam_followPlan_0.2.1.1.1 rfl ?_
      have k3 : ok τ (0, 8) (o + 27) := r_Exam_planWhat hw ao (by omega)
      refine z_s I (s_iload_n (pc' := 16) 1 rfl D_Exam_followPlan_0.2.1.1.2 rfl rfl) ?_
      refine z_iald (pc' := 17) (nI := 8) I k3 ax1 rfl D_Exam_followPlan_0.2.1.2.1 rfl (fun c4 f5 => ?_)
      refine z_s I (s_aload_n (pc' := 18) 0 rfl D_Exam_followPlan_0.2.1.2.2 rfl rfl) ?_
      refine z_getR (pc' := 21) (eI := o + 28) I g_Exam_61 ao rfl (by omega) D_Exam_followPlan_0.2.2.1.1 rfl ?_
      have k6 : ok τ (0, 8) (o + 28) := r_Exam_planK hw ao (by omega)
      refine z_s I (s_iload_n (pc' := 22) 1 rfl D_Exam_followPlan_0.2.2.1.2 rfl rfl) ?_
      refine z_iald (pc' := 23) (nI := 8) I k6 ax1 rfl D_Exam_followPlan_0.2.2.2.1 rfl (fun c7 f8 => ?_)
      refine z_s I (s_aload_n (pc' := 24) 0 rfl D_Exam_followPlan_0.2.2.2.2 rfl rfl) ?_
      refine z_getR (pc' := 27) (eI := o + 29) I g_Exam_64 ao rfl (by omega) D_Exam_followPlan_1.1.1 rfl ?_
      have k9 : ok τ (0, 8) (o + 29) := r_Exam_planV hw ao (by omega)
      refine z_s I (s_iload_n (pc' := 28) 1 rfl D_Exam_followPlan_1.1.2.1 rfl rfl) ?_
      refine z_iald (pc' := 29) (nI := 8) I k9 ax1 rfl D_Exam_followPlan_1.1.2.2 rfl (fun c10 f11 => ?_)
      refine z_b1 (fun h14 q13 => ?_)
      refine z_callV (pc' := 32) I mv_Exam_follow ml_Exam_128 (fun ad => [vI (h (o + 27) x1), vI (h (o + 28) x1), vI (h (o + 29) x1)]) ⟨Nat.le_of_ble_eq_true rfl, Nat.le_of_ble_eq_true rfl⟩ ao (fun hh => c_Exam_follow hw ao f5 f8 f11 hh q13) rfl rfl (Nat.le_of_ble_eq_true rfl) D_Exam_followPlan_1.2.1.1 rfl (fun f12 => ?_)
      refine z_s I (s_iinc (pc' := 35) (lv' := [(1, vI (w32 (x1 + 1))), (0, vR ad o)]) (n := 1) rfl D_Exam_followPlan_1.2.1.2 (by decide) rfl rfl) ?_
      refine z_s I (s_goto (tgt := 2) D_Exam_followPlan_1.2.2.1 rfl) ?_
      refine z_s I (s_lv (lv' := [(0, vR ad o), (1, vI (w32 (x1 + 1)))]) [1, 0] rfl) ?_
      exact z_end (fun g => hin1_1 _ g (inR_w32 _))
  have main : Z Y (m_Exam_followPlan o h) G0 h 0 [(0, vR ad o)] [] := by
    unfold m_Exam_followPlan
    refine z_s I (s_iconst (pc' := 1) D_Exam_followPlan_0.1.1.1.1 rfl) ?_
    refine z_s I (s_istore_n (pc' := 2) (lv' := [(1, vI 0), (0, vR ad o)]) D_Exam_followPlan_0.1.1.1.2 rfl (by decide) rfl rfl) ?_
    refine z_s I (s_lv (lv' := [(0, vR ad o), (1, vI 0)]) [1, 0] rfl) ?_
    exact L2 _ (b01.R bz0)
  exact main _ hF (by rw [hG0])
set_option maxHeartbeats 4000000 in
set_option maxRecDepth 20000 in
theorem c_Cb_ends {l : Launch} {τ : TP} {o : Int} {h : HP} {r : Int} {h' : HP} (hw : wf τ) (ao : ok τ (4, 9) o) (hh : hr τ h) (hF : m_Cb_ends o h = some (r, h')) : Ctr l y_Cb_ends k_Cb_ends 1 (Option.some FieldType.int) 5 138 τ (fun ad => [vR ad o]) h (some (vI r)) h' (inR r) := by
  refine ctr_of (by decide) hw hh (fun ad => Nat.le_of_ble_eq_true rfl) (fun ad K Y I hK => ?_)
  obtain ⟨G0, hG0⟩ : ∃ G : Int × HP → Prop, G = fun x => x = (r, h') := ⟨_, rfl⟩
  have gk0 : ∀ (x : Int) (y : HP), G0 (x, y) → inR x → K (some (vI x)) y := fun x y g q => by
    rw [hG0] at g
    cases g
    exact hK q
  have main : Z Y (m_Cb_ends o h) G0 h 0 [(0, vR ad o)] [] := by
    unfold m_Cb_ends
    refine z_s I (s_aload_n (pc' := 1) 0 rfl D_Cb_ends_0.1.1.1.1 rfl rfl) ?_
    refine z_getR (pc' := 4) (eI := o + 61) I g_Cb_21 ao rfl (by omega) D_Cb_ends_0.1.1.1.2 rfl ?_
    have k1 : ok τ (4, 1) (o + 61) := r_Cb_trial hw ao (by omega)
    refine z_s I (s_aload_n (pc' := 5) 0 rfl D_Cb_ends_0.1.1.2.1 rfl rfl) ?_
    refine z_getR (pc' := 8) (eI := o + 1) I g_Cb_12 ao rfl (by omega) D_Cb_ends_0.1.1.2.2 rfl ?_
    have k2 : ok τ (4, 1) (o + 1) := r_Cb_now hw ao (by omega)
    refine z_b1 (fun h5 q4 => ?_)
    refine z_callV (pc' := 11) I mv_Exam_copy ml_Cb_331 (fun ad => [vR ad (o + 1)]) ⟨Nat.le_of_ble_eq_true rfl, Nat.le_of_ble_eq_true rfl⟩ k1 (fun hh => c_Exam_copy hw k1 k2 hh q4) rfl rfl (Nat.le_of_ble_eq_true rfl) D_Cb_ends_0.1.2.1.1 rfl (fun f3 => ?_)
    refine z_s I (s_aload_n (pc' := 12) 0 rfl D_Cb_ends_0.1.2.1.2 rfl rfl) ?_
    refine z_getR (pc' := 15) (eI := o + 61) I g_Cb_21 ao rfl (by omega) D_Cb_ends_0.1.2.2.1 rfl ?_
    have k6 : ok τ (4, 1) (o + 61) := r_Cb_trial hw ao (by omega)
    refine z_b1 (fun h9 q8 => ?_)
    refine z_callV (pc' := 18) I mv_Exam_followPlan ml_Cb_333 (fun ad => []) ⟨Nat.le_of_ble_eq_true rfl, Nat.le_of_ble_eq_true rfl⟩ k6 (fun hh => c_Exam_followPlan hw k6 hh q8) rfl rfl (Nat.le_of_ble_eq_true rfl) D_Cb_ends_0.1.2.2.2 rfl (fun f7 => ?_)
    refine z_s I (s_aload_n (pc' := 19) 0 rfl D_Cb_ends_0.2.1.1.1 rfl rfl) ?_
    refine z_getR (pc' := 22) (eI := o + 99) I g_Cb_61 ao rfl (by omega) D_Cb_ends_0.2.1.1.2 rfl ?_
    have k10 : ok τ (4, 4) (o + 99) := r_Cb_ranking hw ao (by omega)
    refine z_s I (s_aload_n (pc' := 23) 0 rfl D_Cb_ends_0.2.1.2.1 rfl rfl) ?_
    refine z_getR (pc' := 26) (eI := o + 61) I g_Cb_21 ao rfl (by omega) D_Cb_ends_0.2.1.2.2 rfl ?_
    have k11 : ok τ (4, 1) (o + 61) := r_Cb_trial hw ao (by omega)
    refine z_s I (s_aload_n (pc' := 27) 0 rfl D_Cb_ends_0.2.2.1.1 rfl rfl) ?_
    refine z_getR (pc' := 30) (eI := o + 94) I g_Cb_44 ao rfl (by omega) D_Cb_ends_0.2.2.1.2 rfl ?_
    have k12 : ok τ (4, 3) (o + 94) := r_Cb_odds hw ao (by omega)
    refine z_s I (s_aload_n (pc' := 31) 0 rfl D_Cb_ends_0.2.2.2.1 rfl rfl) ?_
    refine z_getR (pc' := 34) (eI := o + 61) I g_Cb_21 ao rfl (by omega) D_Cb_ends_0.2.2.2.2 rfl ?_
    have k13 : ok τ (4, 1) (o + 61) := r_Cb_trial hw ao (by omega)
    refine z_getR (pc' := 37) (eI := o + 84) I g_Cb_165 k13 rfl (by omega) D_Cb_ends_1.1.1.1 rfl ?_
    have k14 : ok τ (0, 6) (o + 84) := r_Exam_used hw k13 (by omega)
    refine z_s I (s_iconst (pc' := 38) D_Cb_ends_1.1.1.2 rfl) ?_
    refine z_g (c := 0 ≤ (0 : Int) ∧ (0 : Int) < 6) (by decide) ?_
    refine z_iald (pc' := 39) (nI := 6) I k14 (b01.R bz0) rfl D_Cb_ends_1.1.2.1 rfl (fun c15 f16 => ?_)
    refine z_b1 (fun h19 q18 => ?_)
    refine z_callV (pc' := 42) I mv_Ranking_order ml_Cb_309 (fun ad => [vR ad (o + 61), vR ad (o + 94), vI (h9 (o + 84) 0)]) ⟨Nat.le_of_ble_eq_true rfl, Nat.le_of_ble_eq_true rfl⟩ k10 (fun hh => c_Ranking_order hw k10 k11 k12 f16 hh q18) rfl rfl (Nat.le_of_ble_eq_true rfl) D_Cb_ends_1.1.2.2 rfl (fun f17 => ?_)
    refine z_s I (s_aload_n (pc' := 43) 0 rfl D_Cb_ends_1.2.1.1 rfl rfl) ?_
    refine z_getR (pc' := 46) (eI := o + 99) I g_Cb_61 ao rfl (by omega) D_Cb_ends_1.2.1.2 rfl ?_
    have k20 : ok τ (4, 4) (o + 99) := r_Cb_ranking hw ao (by omega)
    refine z_getI (pc' := 49) (jI := 1) I g_Cb_246 k20 rfl rfl D_Cb_ends_1.2.2.1 rfl (fun f21 => ?_)
    exact z_ret (w := some (vI (h19 (o + 99) 1))) I (fun g => gk0 _ _ g f21) ⟨_, rfl⟩ D_Cb_ends_1.2.2.2 rfl
  exact main _ hF (by rw [hG0])
set_option maxHeartbeats 4000000 in
set_option maxRecDepth 20000 in
theorem c_Cb_isTape {l : Launch} {τ : TP} {x0 : Int} {h : HP} {r : Int} (hw : wf τ) (ax0 : inR x0) (hh : hr τ h) (hF : m_Cb_isTape x0 h = some r) : Ctr l y_Cb_isTape k_Cb_isTape 1 (Option.some FieldType.boolean) 0 0 τ (fun ad => [vI x0]) h (some (vI r)) h (b01 r) := by
  refine ctr_of (by decide) hw hh (fun ad => Nat.le_of_ble_eq_true rfl) (fun ad K Y I hK => ?_)
  obtain ⟨G0, hG0⟩ : ∃ G : Int → Prop, G = fun x => x = r := ⟨_, rfl⟩
  have gk0 : ∀ (x : Int), G0 x → b01 x → K (some (vI x)) h := fun x g q => by
    rw [hG0] at g
    cases g
    exact hK q
  have main : Z Y (m_Cb_isTape x0 h) G0 h 0 [(0, vI x0)] [] := by
    unfold m_Cb_isTape
    refine z_s I (s_iload_n (pc' := 1) 0 rfl D_Cb_isTape_0.1.1.1 rfl rfl) ?_
    refine z_if_lt (tgt := 14) (pc' := 4) I ax0 D_Cb_isTape_0.1.1.2 rfl rfl (fun c1 => ?_) (fun c1 => ?_)
    · refine z_s I (s_iconst (pc' := 15) D_Cb_isTape_0.2.2.2.1 rfl) ?_
      exact z_ret (w := some (vI 0)) I (fun g => gk0 _ g bz0) ⟨_, bz0, rfl⟩ D_Cb_isTape_0.2.2.2.2 rfl
    · refine z_s I (s_iload_n (pc' := 5) 0 rfl D_Cb_isTape_0.1.2.1 rfl rfl) ?_
      refine z_s I (s_bipush (pc' := 7) D_Cb_isTape_0.1.2.2 rfl rfl) ?_
      refine z_icmp_ge (tgt := 14) (pc' := 10) I ax0 (inR_c (x := 6) rfl) D_Cb_isTape_0.2.1.1 rfl rfl (fun c2 => ?_) (fun c2 => ?_)
      · refine z_s I (s_iconst (pc' := 15) D_Cb_isTape_0.2.2.2.1 rfl) ?_
        exact z_ret (w := some (vI 0)) I (fun g => gk0 _ g bz0) ⟨_, bz0, rfl⟩ D_Cb_isTape_0.2.2.2.2 rfl
      · refine z_s I (s_iconst (pc' := 11) D_Cb_isTape_0.2.1.2 rfl) ?_
        refine z_s I (s_goto (tgt := 15) D_Cb_isTape_0.2.2.1 rfl) ?_
        exact z_ret (w := some (vI 1)) I (fun g => gk0 _ g bz1) ⟨_, bz1, rfl⟩ D_Cb_isTape_0.2.2.2.2 rfl
  exact main _ hF (by rw [hG0])
set_option maxHeartbeats 4000000 in
set_option maxRecDepth 20000 in
theorem c_Tape_holdsNothing {l : Launch} {τ : TP} {o : Int} {h : HP} {r : Int} (hw : wf τ) (ao : ok τ (4, 7) o) (hh : hr τ h) (hF : m_Tape_holdsNothing o h = some r) : Ctr l y_Tape_holdsNothing k_Tape_holdsNothing 1 (Option.some FieldType.boolean) 0 0 τ (fun ad => [vR ad o]) h (some (vI r)) h (b01 r) := by
  refine ctr_of (by decide) hw hh (fun ad => Nat.le_of_ble_eq_true rfl) (fun ad K Y I hK => ?_)
  obtain ⟨G0, hG0⟩ : ∃ G : Int → Prop, G = fun x => x = r := ⟨_, rfl⟩
  have gk0 : ∀ (x : Int), G0 x → b01 x → K (some (vI x)) h := fun x g q => by
    rw [hG0] at g
    cases g
    exact hK q
  have main : Z Y (m_Tape_holdsNothing o h) G0 h 0 [(0, vR ad o)] [] := by
    unfold m_Tape_holdsNothing
    refine z_s I (s_aload_n (pc' := 1) 0 rfl D_Tape_holdsNothing_0.1.1.1 rfl rfl) ?_
    refine z_getI (pc' := 4) (jI := 0) I g_Tape_9 ao rfl rfl D_Tape_holdsNothing_0.1.1.2 rfl (fun f1 => ?_)
    refine z_s I (s_iconst (pc' := 5) D_Tape_holdsNothing_0.1.2.1 rfl) ?_
    refine z_icmp_ne (tgt := 12) (pc' := 8) I f1 (inR_c (x := (-1)) rfl) D_Tape_holdsNothing_0.1.2.2 rfl rfl (fun c2 => ?_) (fun c2 => ?_)
    · refine z_s I (s_iconst (pc' := 13) D_Tape_holdsNothing_0.2.2.1 rfl) ?_
      exact z_ret (w := some (vI 0)) I (fun g => gk0 _ g bz0) ⟨_, bz0, rfl⟩ D_Tape_holdsNothing_0.2.2.2 rfl
    · refine z_s I (s_iconst (pc' := 9) D_Tape_holdsNothing_0.2.1.1 rfl) ?_
      refine z_s I (s_goto (tgt := 13) D_Tape_holdsNothing_0.2.1.2 rfl) ?_
      exact z_ret (w := some (vI 1)) I (fun g => gk0 _ g bz1) ⟨_, bz1, rfl⟩ D_Tape_holdsNothing_0.2.2.2 rfl
  exact main _ hF (by rw [hG0])
set_option maxHeartbeats 4000000 in
set_option maxRecDepth 20000 in
theorem c_Tape_hasPlaceBehind {l : Launch} {τ : TP} {o : Int} {x1 : Int} {x2 : Int} {h : HP} {r : Int} (hw : wf τ) (ao : ok τ (4, 7) o) (ax1 : inR x1) (ax2 : inR x2) (hh : hr τ h) (hF : m_Tape_hasPlaceBehind o x1 x2 h = some r) : Ctr l y_Tape_hasPlaceBehind k_Tape_hasPlaceBehind 3 (Option.some FieldType.boolean) 0 0 τ (fun ad => [vR ad o, vI x1, vI x2]) h (some (vI r)) h (b01 r) := by
  refine ctr_of (by decide) hw hh (fun ad => Nat.le_of_ble_eq_true rfl) (fun ad K Y I hK => ?_)
  obtain ⟨G0, hG0⟩ : ∃ G : Int → Prop, G = fun x => x = r := ⟨_, rfl⟩
  have gk0 : ∀ (x : Int), G0 x → b01 x → K (some (vI x)) h := fun x g q => by
    rw [hG0] at g
    cases g
    exact hK q
  have main : Z Y (m_Tape_hasPlaceBehind o x1 x2 h) G0 h 0 [(0, vR ad o), (1, vI x1), (2, vI x2)] [] := by
    unfold m_Tape_hasPlaceBehind
    refine z_s I (s_iload_n (pc' := 1) 1 rfl D_Tape_hasPlaceBehind_0.1.1.1 rfl rfl) ?_
    refine z_if_lt (tgt := 18) (pc' := 4) I ax1 D_Tape_hasPlaceBehind_0.1.1.2.1 rfl rfl (fun c1 => ?_) (fun c1 => ?_)
    · refine z_s I (s_iconst (pc' := 19) D_Tape_hasPlaceBehind_0.2.2.2.1 rfl) ?_
      exact z_ret (w := some (vI 0)) I (fun g => gk0 _ g bz0) ⟨_, bz0, rfl⟩ D_Tape_hasPlaceBehind_0.2.2.2.2 rfl
    · refine z_s I (s_iload_n (pc' := 5) 1 rfl D_Tape_hasPlaceBehind_0.1.1.2.2 rfl rfl) ?_
      refine z_s I (s_aload_n (pc' := 6) 0 rfl D_Tape_hasPlaceBehind_0.1.2.1 rfl rfl) ?_
      refine z_getI (pc' := 9) (jI := 1) I g_Tape_13 ao rfl rfl D_Tape_hasPlaceBehind_0.1.2.2.1 rfl (fun f2 => ?_)
      refine z_s I (s_iload_n (pc' := 10) 2 rfl D_Tape_hasPlaceBehind_0.1.2.2.2 rfl rfl) ?_
      refine z_s I (s_isub (pc' := 11) D_Tape_hasPlaceBehind_0.2.1.1 rfl) ?_
      refine z_icmp_ge (tgt := 18) (pc' := 14) I ax1 (inR_w32 _) D_Tape_hasPlaceBehind_0.2.1.2.1 rfl rfl (fun c3 => ?_) (fun c3 => ?_)
      · refine z_s I (s_iconst (pc' := 19) D_Tape_hasPlaceBehind_0.2.2.2.1 rfl) ?_
        exact z_ret (w := some (vI 0)) I (fun g => gk0 _ g bz0) ⟨_, bz0, rfl⟩ D_Tape_hasPlaceBehind_0.2.2.2.2 rfl
      · refine z_s I (s_iconst (pc' := 15) D_Tape_hasPlaceBehind_0.2.1.2.2 rfl) ?_
        refine z_s I (s_goto (tgt := 19) D_Tape_hasPlaceBehind_0.2.2.1 rfl) ?_
        exact z_ret (w := some (vI 1)) I (fun g => gk0 _ g bz1) ⟨_, bz1, rfl⟩ D_Tape_hasPlaceBehind_0.2.2.2.2 rfl
  exact main _ hF (by rw [hG0])
set_option maxHeartbeats 4000000 in
set_option maxRecDepth 20000 in
theorem c_Cb_judge {l : Launch} {τ : TP} {o : Int} {x1 : Int} {x2 : Int} {x3 : Int} {h : HP} {r : Int} (hw : wf τ) (ao : ok τ (4, 9) o) (ax1 : inR x1) (ax2 : inR x2) (ax3 : inR x3) (hh : hr τ h) (hF : m_Cb_judge o x1 x2 x3 h = some r) : Ctr l y_Cb_judge k_Cb_judge 6 (Option.some FieldType.int) 1 22 τ (fun ad => [vR ad o, vI x1, vI x2, vI x3]) h (some (vI r)) h (inR r) := by
  refine ctr_of (by decide) hw hh (fun ad => Nat.le_of_ble_eq_true rfl) (fun ad K Y I hK => ?_)
  obtain ⟨G0, hG0⟩ : ∃ G : Int → Prop, G = fun x => x = r := ⟨_, rfl⟩
  have gk0 : ∀ (x : Int), G0 x → inR x → K (some (vI x)) h := fun x g q => by
    rw [hG0] at g
    cases g
    exact hK q
  have L50 : ∀ (r4 : Int) (ar4 : ok τ (4, 7) r4) (s : Int), (inR s) → Z Y (m_Cb_judge_L50 o x1 x3 r4 h s) G0 h 50 [(0, vR ad o), (1, vI x1), (3, vI x3), (4, vR ad r4), (5, vI s)] [] := by
    intro r4 ar4 s hs
    refine z_loop (G := G0) (hO := fun s : Int => h) (lO := fun s : Int => [(0, vR ad o), (1, vI x1), (3, vI x3), (4, vR ad r4), (5, vI s)]) (Φ := fun s : Int => inR s) (fun G1 hin1_1 hout1 s hs => ?_) FUEL s hs
    obtain ⟨x5, rfl⟩ : ∃ z, z = s := ⟨_, rfl⟩
    have ax5 := hs
    have gk1 := fun (x : Int) (g : G1 (.inr (x))) (q : inR x) => gk0 x (hout1 _ g) q
    show Z Y (m_Cb_judge_L50b o x1 x3 r4 h x5) G1 h 50 [(0, vR ad o), (1, vI x1), (3, vI x3), (4, vR ad r4), (5, vI x5)] []
    unfold m_Cb_judge_L50b
    refine z_s I (s_iload (pc' := 52) 4 rfl D_Cb_judge_1.2.1.1.2 rfl) ?_
    refine z_s I (s_aload_n (pc' := 53) 0 rfl D_Cb_judge_1.2.1.2.1 rfl rfl) ?_
    refine z_getR (pc' := 56) (eI := o + 1) I g_Cb_12 ao rfl (by omega) D_Cb_judge_1.2.1.2.2 rfl ?_
    have k1 : ok τ (4, 1) (o + 1) := r_Cb_now hw ao (by omega)
    refine z_getI (pc' := 59) (jI := 0) I g_Cb_87 k1 rfl rfl D_Cb_judge_1.2.2.1.1 rfl (fun f2 => ?_)
    refine z_icmp_ge (tgt := 115) (pc' := 62) I ax5 f2 D_Cb_judge_1.2.2.1.2 rfl rfl (fun c3 => ?_) (fun c3 => ?_)
    · refine z_s I (s_bipush (pc' := 117) D_Cb_judge_3.2.2.2.1 rfl rfl) ?_
      exact z_ret (w := some (vI (-5))) I (fun g => gk1 _ g (inR_c (x := (-5)) rfl)) ⟨_, rfl⟩ D_Cb_judge_3.2.2.2.2 rfl
    · refine z_s I (s_aload (pc' := 64) 3 rfl D_Cb_judge_1.2.2.2.1 rfl) ?_
      refine z_s I (s_iload_n (pc' := 65) 2 rfl D_Cb_judge_1.2.2.2.2 rfl rfl) ?_
      refine z_s I (s_iload (pc' := 67) 4 rfl D_Cb_judge_2.1.1.1.1 rfl) ?_
      refine z_b1 (fun r6 q5 => ?_)
      refine z_callV (pc' := 70) I mv_Tape_hasPlaceBehind ml_Cb_345 (fun ad => [vI x3, vI x5]) ⟨Nat.le_of_ble_eq_true rfl, Nat.le_of_ble_eq_true rfl⟩ ar4 (fun hh => c_Tape_hasPlaceBehind hw ar4 ax3 ax5 hh q5) rfl rfl (Nat.le_of_ble_eq_true rfl) D_Cb_judge_2.1.1.1.2 rfl (fun f4 => ?_)
      refine z_if_ne (tgt := 79) (pc' := 73) I (b01.R f4) D_Cb_judge_2.1.1.2.1 rfl rfl (fun c7 => ?_) (fun c7 => ?_)
      · refine z_s I (s_aload (pc' := 81) 3 rfl D_Cb_judge_2.1.2.2.2 rfl) ?_
        refine z_getR (pc' := 84) (eI := r4 + 1) I g_Cb_348 ar4 rfl (by omega) D_Cb_judge_2.2.1.1.1 rfl ?_
        have k8 : ok τ (1, 60) (r4 + 1) := r_Tape_row hw ar4 (by omega)
        refine z_s I (s_iload_n (pc' := 85) 2 rfl D_Cb_judge_2.2.1.1.2 rfl rfl) ?_
        refine z_s I (s_iload (pc' := 87) 4 rfl D_Cb_judge_2.2.1.2.1 rfl) ?_
        refine z_s I (s_iadd (pc' := 88) D_Cb_judge_2.2.1.2.2 rfl) ?_
        refine z_lald (pc' := 89) (nI := 60) I k8 (inR_w32 _) rfl D_Cb_judge_2.2.2.1.1 rfl (fun c9 f10 => ?_)
        refine z_s I (s_aload_n (pc' := 90) 0 rfl D_Cb_judge_2.2.2.1.2 rfl rfl) ?_
        refine z_getR (pc' := 93) (eI := o + 1) I g_Cb_12 ao rfl (by omega) D_Cb_judge_2.2.2.2.1 rfl ?_
        have k11 : ok τ (4, 1) (o + 1) := r_Cb_now hw ao (by omega)
        refine z_getR (pc' := 96) (eI := o + 13) I g_Cb_126 k11 rfl (by omega) D_Cb_judge_2.2.2.2.2 rfl ?_
        have k12 : ok τ (3, 1) (o + 13) := r_Exam_given hw k11 (by omega)
        refine z_s I (s_iload_n (pc' := 97) 1 rfl D_Cb_judge_3.1.1.1 rfl rfl) ?_
        refine z_aald (pc' := 98) (eI := o + x1 + 14) I 8 1 1 k12 ax1 rfl rfl rfl (by omega) D_Cb_judge_3.1.1.2.1 rfl (fun c13 => ?_)
        have k14 : ok τ (0, 8) (o + x1 + 14) := e_1 hw k12 c13 (by omega)
        refine z_s I (s_iload (pc' := 100) 4 rfl D_Cb_judge_3.1.1.2.2 rfl) ?_
        refine z_iald (pc' := 101) (nI := 8) I k14 ax5 rfl D_Cb_judge_3.1.2.1 rfl (fun c15 f16 => ?_)
        refine z_s I (s_i2l (pc' := 102) f16 D_Cb_judge_3.1.2.2.1 rfl) ?_
        refine z_s I (s_lcmp (pc' := 103) f10 (f16).L D_Cb_judge_3.1.2.2.2 rfl) ?_
        refine z_if_eq (tgt := 109) (pc' := 106) I (inR_lCmp _ _) D_Cb_judge_3.2.1.1 rfl rfl (fun c17 => ?_) (fun c17 => ?_)
        · refine z_s I (s_iinc (pc' := 112) (lv' := [(5, vI (w32 (x5 + 1))), (0, vR ad o), (1, vI x1), (3, vI x3), (4, vR ad r4)]) (n := 4) rfl D_Cb_judge_3.2.2.1.1 (by decide) rfl rfl) ?_
          refine z_s I (s_goto (tgt := 50) D_Cb_judge_3.2.2.1.2 rfl) ?_
          refine z_s I (s_lv (lv' := [(0, vR ad o), (1, vI x1), (3, vI x3), (4, vR ad r4), (5, vI (w32 (x5 + 1)))]) [1, 2, 3, 4, 0] rfl) ?_
          exact z_end (fun g => hin1_1 _ g (inR_w32 _))
        · refine z_s I (s_iload (pc' := 108) 4 rfl D_Cb_judge_3.2.1.2.1 rfl) ?_
          exact z_ret (w := some (vI x5)) I (fun g => gk1 _ g ax5) ⟨_, rfl⟩ D_Cb_judge_3.2.1.2.2 rfl
      · refine z_s I (s_bipush (pc' := 75) D_Cb_judge_2.1.1.2.2 rfl rfl) ?_
        refine z_s I (s_iload (pc' := 77) 4 rfl D_Cb_judge_2.1.2.1.1 rfl) ?_
        refine z_s I (s_iadd (pc' := 78) D_Cb_judge_2.1.2.1.2 rfl) ?_
        exact z_ret (w := some (vI (w32 (100 + x5)))) I (fun g => gk1 _ g (inR_w32 _)) ⟨_, rfl⟩ D_Cb_judge_2.1.2.2.1 rfl
  have main : Z Y (m_Cb_judge o x1 x2 x3 h) G0 h 0 [(0, vR ad o), (1, vI x1), (2, vI x2), (3, vI x3)] [] := by
    unfold m_Cb_judge
    refine z_s I (s_aload_n (pc' := 1) 0 rfl D_Cb_judge_0.1.1.1.1 rfl rfl) ?_
    refine z_getR (pc' := 4) (eI := o + 1) I g_Cb_12 ao rfl (by omega) D_Cb_judge_0.1.1.1.2 rfl ?_
    have k18 : ok τ (4, 1) (o + 1) := r_Cb_now hw ao (by omega)
    refine z_s I (s_iload_n (pc' := 5) 1 rfl D_Cb_judge_0.1.1.2.1 rfl rfl) ?_
    refine z_b1 (fun r21 q20 => ?_)
    refine z_callV (pc' := 8) I mv_Exam_hasCandidate ml_Cb_123 (fun ad => [vI x1]) ⟨Nat.le_of_ble_eq_true rfl, Nat.le_of_ble_eq_true rfl⟩ k18 (fun hh => c_Exam_hasCandidate hw k18 ax1 hh q20) rfl rfl (Nat.le_of_ble_eq_true rfl) D_Cb_judge_0.1.1.2.2 rfl (fun f19 => ?_)
    refine z_if_eq (tgt := 18) (pc' := 11) I (b01.R f19) D_Cb_judge_0.1.2.1.1 rfl rfl (fun c22 => ?_) (fun c22 => ?_)
    · refine z_s I (s_iconst (pc' := 19) D_Cb_judge_0.2.1.1.1 rfl) ?_
      exact z_ret (w := some (vI (-1))) I (fun g => gk0 _ g (inR_c (x := (-1)) rfl)) ⟨_, rfl⟩ D_Cb_judge_0.2.1.1.2 rfl
    · refine z_s I (s_iload_n (pc' := 12) 2 rfl D_Cb_judge_0.1.2.1.2 rfl rfl) ?_
      refine z_b1 (fun r25 q24 => ?_)
      refine z_callS (pc' := 15) I mv_Cb_isTape ml_Cb_336 (fun ad => [vI x2]) ⟨Nat.le_of_ble_eq_true rfl, Nat.le_of_ble_eq_true rfl⟩ (fun hh => c_Cb_isTape hw ax2 hh q24) rfl rfl (Nat.le_of_ble_eq_true rfl) D_Cb_judge_0.1.2.2.1 rfl (fun f23 => ?_)
      refine z_if_ne (tgt := 20) (pc' := 18) I (b01.R f23) D_Cb_judge_0.1.2.2.2 rfl rfl (fun c26 => ?_) (fun c26 => ?_)
      · refine z_s I (s_aload_n (pc' := 21) 0 rfl D_Cb_judge_0.2.1.2.1 rfl rfl) ?_
        refine z_getR (pc' := 24) (eI := o + 93) I g_Cb_37 ao rfl (by omega) D_Cb_judge_0.2.1.2.2 rfl ?_
        have k27 : ok τ (3, 2) (o + 93) := r_Cb_tapes hw ao (by omega)
        refine z_s I (s_iload_n (pc' := 25) 2 rfl D_Cb_judge_0.2.2.1.1 rfl rfl) ?_
        refine z_aald (pc' := 26) (eI := o + 2 * x2 + 114) I 6 21 2 k27 ax2 rfl rfl rfl (by omega) D_Cb_judge_0.2.2.1.2 rfl (fun c28 => ?_)
        have k29 : ok τ (4, 7) (o + 2 * x2 + 114) := e_2 hw k27 c28 (by omega)
        refine z_bR k29 (fun v30 e31 f32 => ?_)
        refine z_s I (s_astore (pc' := 28) (lv' := [(4, vR ad v30), (0, vR ad o), (1, vI x1), (2, vI x2), (3, vI x3)]) D_Cb_judge_0.2.2.2.1 (by decide) rfl rfl) ?_
        refine z_s I (s_aload (pc' := 30) 0 rfl D_Cb_judge_0.2.2.2.2 rfl) ?_
        refine z_b1 (fun r35 q34 => ?_)
        refine z_callV (pc' := 33) I mv_Tape_holdsNothing ml_Cb_339 (fun ad => []) ⟨Nat.le_of_ble_eq_true rfl, Nat.le_of_ble_eq_true rfl⟩ f32 (fun hh => c_Tape_holdsNothing hw f32 hh q34) rfl rfl (Nat.le_of_ble_eq_true rfl) D_Cb_judge_1.1.1.1.1 rfl (fun f33 => ?_)
        refine z_if_ne (tgt := 47) (pc' := 36) I (b01.R f33) D_Cb_judge_1.1.1.1.2 rfl rfl (fun c36 => ?_) (fun c36 => ?_)
        · refine z_s I (s_iconst (pc' := 48) D_Cb_judge_1.1.2.2.2 rfl) ?_
          refine z_s I (s_istore (pc' := 50) (lv' := [(5, vI 0), (4, vR ad v30), (0, vR ad o), (1, vI x1), (2, vI x2), (3, vI x3)]) D_Cb_judge_1.2.1.1.1 (by decide) rfl rfl) ?_
          refine z_s I (s_lv (lv' := [(0, vR ad o), (1, vI x1), (3, vI x3), (4, vR ad v30), (5, vI 0)]) [2, 3, 5, 1, 0] rfl) ?_
          exact L50 _ f32 _ (b01.R bz0)
        · refine z_s I (s_aload (pc' := 38) 0 rfl D_Cb_judge_1.1.1.2.1 rfl) ?_
          refine z_getI (pc' := 41) (jI := 0) I g_Cb_342 f32 rfl rfl D_Cb_judge_1.1.1.2.2 rfl (fun f37 => ?_)
          refine z_if_eq (tgt := 47) (pc' := 44) I f37 D_Cb_judge_1.1.2.1.1 rfl rfl (fun c38 => ?_) (fun c38 => ?_)
          · refine z_s I (s_iconst (pc' := 48) D_Cb_judge_1.1.2.2.2 rfl) ?_
            refine z_s I (s_istore (pc' := 50) (lv' := [(5, vI 0), (4, vR ad v30), (0, vR ad o), (1, vI x1), (2, vI x2), (3, vI x3)]) D_Cb_judge_1.2.1.1.1 (by decide) rfl rfl) ?_
            refine z_s I (s_lv (lv' := [(0, vR ad o), (1, vI x1), (3, vI x3), (4, vR ad v30), (5, vI 0)]) [2, 3, 5, 1, 0] rfl) ?_
            exact L50 _ f32 _ (b01.R bz0)
          · refine z_s I (s_bipush (pc' := 46) D_Cb_judge_1.1.2.1.2 rfl rfl) ?_
            exact z_ret (w := some (vI (-12))) I (fun g => gk0 _ g (inR_c (x := (-12)) rfl)) ⟨_, rfl⟩ D_Cb_judge_1.1.2.2.1 rfl
      · refine z_s I (s_iconst (pc' := 19) D_Cb_judge_0.2.1.1.1 rfl) ?_
        exact z_ret (w := some (vI (-1))) I (fun g => gk0 _ g (inR_c (x := (-1)) rfl)) ⟨_, rfl⟩ D_Cb_judge_0.2.1.1.2 rfl
  exact main _ hF (by rw [hG0])
set_option maxHeartbeats 4000000 in
set_option maxRecDepth 20000 in
theorem c_Cb_image {l : Launch} {τ : TP} {o : Int} {h : HP} {r : Int} {h' : HP} (hw : wf τ) (ao : ok τ (4, 9) o) (hh : hr τ h) (hF : m_Cb_image o h = some (r, h')) : Ctr l y_Cb_image k_Cb_image 1 (Option.some FieldType.int) 2 48 τ (fun ad => [vR ad o]) h (some (vI r)) h' (inR r) := by
  refine ctr_of (by decide) hw hh (fun ad => Nat.le_of_ble_eq_true rfl) (fun ad K Y I hK => ?_)
  obtain ⟨G0, hG0⟩ : ∃ G : Int × HP → Prop, G = fun x => x = (r, h') := ⟨_, rfl⟩
  have gk0 : ∀ (x : Int) (y : HP), G0 (x, y) → inR x → K (some (vI x)) y := fun x y g q => by
    rw [hG0] at g
    cases g
    exact hK q
  have main : Z Y (m_Cb_image o h) G0 h 0 [(0, vR ad o)] [] := by
    unfold m_Cb_image
    refine z_s I (s_aload_n (pc' := 1) 0 rfl D_Cb_image_0.1.1.1 rfl rfl) ?_
    refine z_getR (pc' := 4) (eI := o + 31) I g_Cb_18 ao rfl (by omega) D_Cb_image_0.1.1.2.1 rfl ?_
    have k1 : ok τ (4, 1) (o + 31) := r_Cb_kept hw ao (by omega)
    refine z_s I (s_aload_n (pc' := 5) 0 rfl D_Cb_image_0.1.1.2.2 rfl rfl) ?_
    refine z_getR (pc' := 8) (eI := o + 1) I g_Cb_12 ao rfl (by omega) D_Cb_image_0.1.2.1 rfl ?_
    have k2 : ok τ (4, 1) (o + 1) := r_Cb_now hw ao (by omega)
    refine z_b1 (fun h5 q4 => ?_)
    refine z_callV (pc' := 11) I mv_Exam_copy ml_Cb_331 (fun ad => [vR ad (o + 1)]) ⟨Nat.le_of_ble_eq_true rfl, Nat.le_of_ble_eq_true rfl⟩ k1 (fun hh => c_Exam_copy hw k1 k2 hh q4) rfl rfl (Nat.le_of_ble_eq_true rfl) D_Cb_image_0.1.2.2.1 rfl (fun f3 => ?_)
    refine z_s I (s_aload_n (pc' := 12) 0 rfl D_Cb_image_0.1.2.2.2 rfl rfl) ?_
    refine z_s I (s_iconst (pc' := 13) D_Cb_image_0.2.1.1 rfl) ?_
    refine z_putB (pc' := 16) (jI := 3) I p_Cb_24 ao rfl rfl bz1 D_Cb_image_0.2.1.2.1 rfl ?_
    refine z_bH (fun h6 e7 => ?_)
    refine z_s I (s_aload_n (pc' := 17) 0 rfl D_Cb_image_0.2.1.2.2 rfl rfl) ?_
    refine z_getR (pc' := 20) (eI := o + 31) I g_Cb_18 ao rfl (by omega) D_Cb_image_0.2.2.1 rfl ?_
    have k8 : ok τ (4, 1) (o + 31) := r_Cb_kept hw ao (by omega)
    refine z_getI (pc' := 23) (jI := 1) I g_Cb_116 k8 rfl rfl D_Cb_image_0.2.2.2.1 rfl (fun f9 => ?_)
    exact z_ret (w := some (vI (h6 (o + 31) 1))) I (fun g => gk0 _ _ g f9) ⟨_, rfl⟩ D_Cb_image_0.2.2.2.2 rfl
  exact main _ hF (by rw [hG0])
set_option maxHeartbeats 4000000 in
set_option maxRecDepth 20000 in
theorem c_Cb_undo {l : Launch} {τ : TP} {o : Int} {h : HP} {r : Int} {h' : HP} (hw : wf τ) (ao : ok τ (4, 9) o) (hh : hr τ h) (hF : m_Cb_undo o h = some (r, h')) : Ctr l y_Cb_undo k_Cb_undo 1 (Option.some FieldType.int) 2 48 τ (fun ad => [vR ad o]) h (some (vI r)) h' (inR r) := by
  refine ctr_of (by decide) hw hh (fun ad => Nat.le_of_ble_eq_true rfl) (fun ad K Y I hK => ?_)
  obtain ⟨G0, hG0⟩ : ∃ G : Int × HP → Prop, G = fun x => x = (r, h') := ⟨_, rfl⟩
  have gk0 : ∀ (x : Int) (y : HP), G0 (x, y) → inR x → K (some (vI x)) y := fun x y g q => by
    rw [hG0] at g
    cases g
    exact hK q
  have main : Z Y (m_Cb_undo o h) G0 h 0 [(0, vR ad o)] [] := by
    unfold m_Cb_undo
    refine z_s I (s_aload_n (pc' := 1) 0 rfl D_Cb_undo_0.1.1.1 rfl rfl) ?_
    refine z_getB (pc' := 4) (jI := 3) I g_Cb_24 ao rfl rfl D_Cb_undo_0.1.1.2.1 rfl (fun f1 => ?_)
    refine z_if_ne (tgt := 10) (pc' := 7) I (b01.R f1) D_Cb_undo_0.1.1.2.2 rfl rfl (fun c2 => ?_) (fun c2 => ?_)
    · refine z_s I (s_aload_n (pc' := 11) 0 rfl D_Cb_undo_0.1.2.2.1 rfl rfl) ?_
      refine z_getR (pc' := 14) (eI := o + 1) I g_Cb_12 ao rfl (by omega) D_Cb_undo_0.1.2.2.2 rfl ?_
      have k3 : ok τ (4, 1) (o + 1) := r_Cb_now hw ao (by omega)
      refine z_s I (s_aload_n (pc' := 15) 0 rfl D_Cb_undo_0.2.1.1 rfl rfl) ?_
      refine z_getR (pc' := 18) (eI := o + 31) I g_Cb_18 ao rfl (by omega) D_Cb_undo_0.2.1.2.1 rfl ?_
      have k4 : ok τ (4, 1) (o + 31) := r_Cb_kept hw ao (by omega)
      refine z_b1 (fun h7 q6 => ?_)
      refine z_callV (pc' := 21) I mv_Exam_copy ml_Cb_331 (fun ad => [vR ad (o + 31)]) ⟨Nat.le_of_ble_eq_true rfl, Nat.le_of_ble_eq_true rfl⟩ k3 (fun hh => c_Exam_copy hw k3 k4 hh q6) rfl rfl (Nat.le_of_ble_eq_true rfl) D_Cb_undo_0.2.1.2.2 rfl (fun f5 => ?_)
      refine z_s I (s_aload_n (pc' := 22) 0 rfl D_Cb_undo_0.2.2.1.1 rfl rfl) ?_
      refine z_getR (pc' := 25) (eI := o + 1) I g_Cb_12 ao rfl (by omega) D_Cb_undo_0.2.2.1.2 rfl ?_
      have k8 : ok τ (4, 1) (o + 1) := r_Cb_now hw ao (by omega)
      refine z_getI (pc' := 28) (jI := 1) I g_Cb_116 k8 rfl rfl D_Cb_undo_0.2.2.2.1 rfl (fun f9 => ?_)
      exact z_ret (w := some (vI (h7 (o + 1) 1))) I (fun g => gk0 _ _ g f9) ⟨_, rfl⟩ D_Cb_undo_0.2.2.2.2 rfl
    · refine z_s I (s_bipush (pc' := 9) D_Cb_undo_0.1.2.1.1 rfl rfl) ?_
      exact z_ret (w := some (vI (-3))) I (fun g => gk0 _ _ g (inR_c (x := (-3)) rfl)) ⟨_, rfl⟩ D_Cb_undo_0.1.2.1.2 rfl
  exact main _ hF (by rw [hG0])
set_option maxHeartbeats 4000000 in
set_option maxRecDepth 20000 in
theorem c_Exam_seatedOnes {l : Launch} {τ : TP} {o : Int} {h : HP} {r : Int} (hw : wf τ) (ao : ok τ (4, 1) o) (hh : hr τ h) (hF : m_Exam_seatedOnes o h = some r) : Ctr l y_Exam_seatedOnes k_Exam_seatedOnes 3 (Option.some FieldType.int) 1 21 τ (fun ad => [vR ad o]) h (some (vI r)) h (inR r) := by
  refine ctr_of (by decide) hw hh (fun ad => Nat.le_of_ble_eq_true rfl) (fun ad K Y I hK => ?_)
  obtain ⟨G0, hG0⟩ : ∃ G : Int → Prop, G = fun x => x = r := ⟨_, rfl⟩
  have gk0 : ∀ (x : Int), G0 x → inR x → K (some (vI x)) h := fun x g q => by
    rw [hG0] at g
    cases g
    exact hK q
  have L4 : ∀ (s : Int × Int), (inR (s.1) ∧ inR (s.2)) → Z Y (m_Exam_seatedOnes_L4 o h s) G0 h 4 [(0, vR ad o), (1, vI (s.1)), (2, vI (s.2))] [] := by
    intro s hs
    refine z_loop (G := G0) (hO := fun s : Int × Int => h) (lO := fun s : Int × Int => [(0, vR ad o), (1, vI (s.1)), (2, vI (s.2))]) (Φ := fun s : Int × Int => inR (s.1) ∧ inR (s.2)) (fun G1 hin1_1 hout1 s hs => ?_) FUEL s hs
    obtain ⟨x1, x2⟩ := s
    obtain ⟨ax1, ax2⟩ := hs
    have gk1 := fun (x : Int) (g : G1 (.inr (x))) (q : inR x) => gk0 x (hout1 _ g) q
    show Z Y (m_Exam_seatedOnes_L4b o h x1 x2) G1 h 4 [(0, vR ad o), (1, vI x1), (2, vI x2)] []
    unfold m_Exam_seatedOnes_L4b
    refine z_s I (s_iload_n (pc' := 5) 2 rfl D_Exam_seatedOnes_0.1.2.1.1 rfl rfl) ?_
    refine z_s I (s_aload_n (pc' := 6) 0 rfl D_Exam_seatedOnes_0.1.2.1.2 rfl rfl) ?_
    refine z_getI (pc' := 9) (jI := 1) I g_Exam_15 ao rfl rfl D_Exam_seatedOnes_0.1.2.2.1 rfl (fun f1 => ?_)
    refine z_icmp_ge (tgt := 29) (pc' := 12) I ax2 f1 D_Exam_seatedOnes_0.1.2.2.2 rfl rfl (fun c2 => ?_) (fun c2 => ?_)
    · refine z_s I (s_iload_n (pc' := 30) 1 rfl D_Exam_seatedOnes_0.2.2.2.2 rfl rfl) ?_
      exact z_ret (w := some (vI x1)) I (fun g => gk1 _ g ax1) ⟨_, rfl⟩ D_Exam_seatedOnes_1 rfl
    · refine z_s I (s_aload_n (pc' := 13) 0 rfl D_Exam_seatedOnes_0.2.1.1.1 rfl rfl) ?_
      refine z_s I (s_iload_n (pc' := 14) 2 rfl D_Exam_seatedOnes_0.2.1.1.2 rfl rfl) ?_
      refine z_b1 (fun r5 q4 => ?_)
      refine z_callV (pc' := 17) I mv_Exam_hasSeat ml_Exam_88 (fun ad => [vI x2]) ⟨Nat.le_of_ble_eq_true rfl, Nat.le_of_ble_eq_true rfl⟩ ao (fun hh => c_Exam_hasSeat hw ao ax2 hh q4) rfl rfl (Nat.le_of_ble_eq_true rfl) D_Exam_seatedOnes_0.2.1.2.1 rfl (fun f3 => ?_)
      refine z_if_eq (tgt := 23) (pc' := 20) I (b01.R f3) D_Exam_seatedOnes_0.2.1.2.2 rfl rfl (fun c6 => ?_) (fun c6 => ?_)
      · refine z_s I (s_iinc (pc' := 26) (lv' := [(2, vI (w32 (x2 + 1))), (0, vR ad o), (1, vI x1)]) (n := 2) rfl D_Exam_seatedOnes_0.2.2.1.2 (by decide) rfl rfl) ?_
        refine z_s I (s_goto (tgt := 4) D_Exam_seatedOnes_0.2.2.2.1 rfl) ?_
        refine z_s I (s_lv (lv' := [(0, vR ad o), (1, vI x1), (2, vI (w32 (x2 + 1)))]) [1, 2, 0] rfl) ?_
        exact z_end (fun g => hin1_1 _ g ⟨ax1, (inR_w32 _)⟩)
      · refine z_s I (s_iinc (pc' := 23) (lv' := [(1, vI (w32 (x1 + 1))), (0, vR ad o), (2, vI x2)]) (n := 1) rfl D_Exam_seatedOnes_0.2.2.1.1 (by decide) rfl rfl) ?_
        refine z_s I (s_iinc (pc' := 26) (lv' := [(2, vI (w32 (x2 + 1))), (1, vI (w32 (x1 + 1))), (0, vR ad o)]) (n := 2) rfl D_Exam_seatedOnes_0.2.2.1.2 (by decide) rfl rfl) ?_
        refine z_s I (s_goto (tgt := 4) D_Exam_seatedOnes_0.2.2.2.1 rfl) ?_
        refine z_s I (s_lv (lv' := [(0, vR ad o), (1, vI (w32 (x1 + 1))), (2, vI (w32 (x2 + 1)))]) [2, 1, 0] rfl) ?_
        exact z_end (fun g => hin1_1 _ g ⟨(inR_w32 _), (inR_w32 _)⟩)
  have main : Z Y (m_Exam_seatedOnes o h) G0 h 0 [(0, vR ad o)] [] := by
    unfold m_Exam_seatedOnes
    refine z_s I (s_iconst (pc' := 1) D_Exam_seatedOnes_0.1.1.1.1 rfl) ?_
    refine z_s I (s_istore_n (pc' := 2) (lv' := [(1, vI 0), (0, vR ad o)]) D_Exam_seatedOnes_0.1.1.1.2 rfl (by decide) rfl rfl) ?_
    refine z_s I (s_iconst (pc' := 3) D_Exam_seatedOnes_0.1.1.2.1 rfl) ?_
    refine z_s I (s_istore_n (pc' := 4) (lv' := [(2, vI 0), (1, vI 0), (0, vR ad o)]) D_Exam_seatedOnes_0.1.1.2.2 rfl (by decide) rfl rfl) ?_
    refine z_s I (s_lv (lv' := [(0, vR ad o), (1, vI 0), (2, vI 0)]) [2, 1, 0] rfl) ?_
    exact L4 _ ⟨(b01.R bz0), (b01.R bz0)⟩
  exact main _ hF (by rw [hG0])
set_option maxHeartbeats 4000000 in
set_option maxRecDepth 20000 in
theorem c_Cb_count {l : Launch} {τ : TP} {o : Int} {x1 : Int} {h : HP} {r : Int} (hw : wf τ) (ao : ok τ (4, 9) o) (ax1 : inR x1) (hh : hr τ h) (hF : m_Cb_count o x1 h = some r) : Ctr l y_Cb_count k_Cb_count 2 (Option.some FieldType.int) 2 43 τ (fun ad => [vR ad o, vI x1]) h (some (vI r)) h (inR r) := by
  refine ctr_of (by decide) hw hh (fun ad => Nat.le_of_ble_eq_true rfl) (fun ad K Y I hK => ?_)
  obtain ⟨G0, hG0⟩ : ∃ G : Int → Prop, G = fun x => x = r := ⟨_, rfl⟩
  have gk0 : ∀ (x : Int), G0 x → inR x → K (some (vI x)) h := fun x g q => by
    rw [hG0] at g
    cases g
    exact hK q
  have main : Z Y (m_Cb_count o x1 h) G0 h 0 [(0, vR ad o), (1, vI x1)] [] := by
    unfold m_Cb_count
    refine z_s I (s_iload_n (pc' := 1) 1 rfl D_Cb_count_0.1.1.1.1 rfl rfl) ?_
    refine z_tin (tgt := 40) I ax1 D_Cb_count_0.1.1.1.2 0 ⟨by decide, by decide⟩ rfl rfl (fun c1 => ?_) (fun c1 => ?_)
    · refine z_s I (s_aload_n (pc' := 41) 0 rfl D_Cb_count_0.1.1.2.1 rfl rfl) ?_
      refine z_getR (pc' := 44) (eI := o + 1) I g_Cb_12 ao rfl (by omega) D_Cb_count_0.1.1.2.2 rfl ?_
      have k2 : ok τ (4, 1) (o + 1) := r_Cb_now hw ao (by omega)
      refine z_getI (pc' := 47) (jI := 0) I g_Cb_87 k2 rfl rfl D_Cb_count_0.1.2.1.1 rfl (fun f3 => ?_)
      exact z_ret (w := some (vI (h (o + 1) 0))) I (fun g => gk0 _ g f3) ⟨_, rfl⟩ D_Cb_count_0.1.2.1.2 rfl
    · skip
      refine z_tin (tgt := 48) I ax1 D_Cb_count_0.1.1.1.2 1 ⟨by decide, by decide⟩ rfl rfl (fun c4 => ?_) (fun c4 => ?_)
      · refine z_s I (s_aload_n (pc' := 49) 0 rfl D_Cb_count_0.1.2.2.1 rfl rfl) ?_
        refine z_getR (pc' := 52) (eI := o + 1) I g_Cb_12 ao rfl (by omega) D_Cb_count_0.1.2.2.2 rfl ?_
        have k5 : ok τ (4, 1) (o + 1) := r_Cb_now hw ao (by omega)
        refine z_getI (pc' := 55) (jI := 1) I g_Cb_116 k5 rfl rfl D_Cb_count_0.2.1.1.1 rfl (fun f6 => ?_)
        exact z_ret (w := some (vI (h (o + 1) 1))) I (fun g => gk0 _ g f6) ⟨_, rfl⟩ D_Cb_count_0.2.1.1.2 rfl
      · skip
        refine z_tin (tgt := 56) I ax1 D_Cb_count_0.1.1.1.2 2 ⟨by decide, by decide⟩ rfl rfl (fun c7 => ?_) (fun c7 => ?_)
        · refine z_s I (s_aload_n (pc' := 57) 0 rfl D_Cb_count_0.2.1.2.1 rfl rfl) ?_
          refine z_getR (pc' := 60) (eI := o + 1) I g_Cb_12 ao rfl (by omega) D_Cb_count_0.2.1.2.2 rfl ?_
          have k8 : ok τ (4, 1) (o + 1) := r_Cb_now hw ao (by omega)
          refine z_b1 (fun r11 q10 => ?_)
          refine z_callV (pc' := 63) I mv_Exam_seatedOnes ml_Cb_350 (fun ad => []) ⟨Nat.le_of_ble_eq_true rfl, Nat.le_of_ble_eq_true rfl⟩ k8 (fun hh => c_Exam_seatedOnes hw k8 hh q10) rfl rfl (Nat.le_of_ble_eq_true rfl) D_Cb_count_0.2.2.1.1 rfl (fun f9 => ?_)
          exact z_ret (w := some (vI r11)) I (fun g => gk0 _ g f9) ⟨_, rfl⟩ D_Cb_count_0.2.2.1.2 rfl
        · skip
          refine z_tin (tgt := 64) I ax1 D_Cb_count_0.1.1.1.2 3 ⟨by decide, by decide⟩ rfl rfl (fun c12 => ?_) (fun c12 => ?_)
          · refine z_s I (s_aload_n (pc' := 65) 0 rfl D_Cb_count_0.2.2.2.1 rfl rfl) ?_
            refine z_getR (pc' := 68) (eI := o + 1) I g_Cb_12 ao rfl (by omega) D_Cb_count_0.2.2.2.2 rfl ?_
            have k13 : ok τ (4, 1) (o + 1) := r_Cb_now hw ao (by omega)
            refine z_getI (pc' := 71) (jI := 2) I g_Cb_302 k13 rfl rfl D_Cb_count_1.1.1.1.1 rfl (fun f14 => ?_)
            exact z_ret (w := some (vI (h (o + 1) 2))) I (fun g => gk0 _ g f14) ⟨_, rfl⟩ D_Cb_count_1.1.1.1.2 rfl
          · skip
            refine z_tin (tgt := 72) I ax1 D_Cb_count_0.1.1.1.2 4 ⟨by decide, by decide⟩ rfl rfl (fun c15 => ?_) (fun c15 => ?_)
            · refine z_s I (s_aload_n (pc' := 73) 0 rfl D_Cb_count_1.1.1.2.1 rfl rfl) ?_
              refine z_getR (pc' := 76) (eI := o + 1) I g_Cb_12 ao rfl (by omega) D_Cb_count_1.1.1.2.2 rfl ?_
              have k16 : ok τ (4, 1) (o + 1) := r_Cb_now hw ao (by omega)
              refine z_getI (pc' := 79) (jI := 3) I g_Cb_320 k16 rfl rfl D_Cb_count_1.1.2.1.1 rfl (fun f17 => ?_)
              exact z_ret (w := some (vI (h (o + 1) 3))) I (fun g => gk0 _ g f17) ⟨_, rfl⟩ D_Cb_count_1.1.2.1.2 rfl
            · skip
              refine z_tin (tgt := 80) I ax1 D_Cb_count_0.1.1.1.2 5 ⟨by decide, by decide⟩ rfl rfl (fun c18 => ?_) (fun c18 => ?_)
              · refine z_s I (s_aload_n (pc' := 81) 0 rfl D_Cb_count_1.1.2.2.1 rfl rfl) ?_
                refine z_getR (pc' := 84) (eI := o + 91) I g_Cb_31 ao rfl (by omega) D_Cb_count_1.1.2.2.2 rfl ?_
                have k19 : ok τ (4, 8) (o + 91) := r_Cb_text hw ao (by omega)
                refine z_getI (pc' := 87) (jI := 0) I g_Cb_353 k19 rfl rfl D_Cb_count_1.2.1.1.1 rfl (fun f20 => ?_)
                exact z_ret (w := some (vI (h (o + 91) 0))) I (fun g => gk0 _ g f20) ⟨_, rfl⟩ D_Cb_count_1.2.1.1.2 rfl
              · skip
                refine z_tout (tgt := 88) I ax1 D_Cb_count_0.1.1.1.2 (by omega) rfl ?_
                refine z_s I (s_iload_n (pc' := 89) 1 rfl D_Cb_count_1.2.1.2.1 rfl rfl) ?_
                refine z_s I (s_bipush (pc' := 91) D_Cb_count_1.2.1.2.2 rfl rfl) ?_
                refine z_icmp_lt (tgt := 115) (pc' := 94) I ax1 (inR_c (x := 6) rfl) D_Cb_count_1.2.2.1.1 rfl rfl (fun c21 => ?_) (fun c21 => ?_)
                · refine z_s I (s_bipush (pc' := 117) D_Cb_count_2.2.2.2.1 rfl rfl) ?_
                  exact z_ret (w := some (vI (-2))) I (fun g => gk0 _ g (inR_c (x := (-2)) rfl)) ⟨_, rfl⟩ D_Cb_count_2.2.2.2.2 rfl
                · refine z_s I (s_iload_n (pc' := 95) 1 rfl D_Cb_count_1.2.2.1.2 rfl rfl) ?_
                  refine z_s I (s_bipush (pc' := 97) D_Cb_count_1.2.2.2.1 rfl rfl) ?_
                  refine z_icmp_ge (tgt := 115) (pc' := 100) I ax1 (inR_c (x := 12) rfl) D_Cb_count_1.2.2.2.2 rfl rfl (fun c22 => ?_) (fun c22 => ?_)
                  · refine z_s I (s_bipush (pc' := 117) D_Cb_count_2.2.2.2.1 rfl rfl) ?_
                    exact z_ret (w := some (vI (-2))) I (fun g => gk0 _ g (inR_c (x := (-2)) rfl)) ⟨_, rfl⟩ D_Cb_count_2.2.2.2.2 rfl
                  · refine z_s I (s_aload_n (pc' := 101) 0 rfl D_Cb_count_2.1.1.1 rfl rfl) ?_
                    refine z_getR (pc' := 104) (eI := o + 1) I g_Cb_12 ao rfl (by omega) D_Cb_count_2.1.1.2 rfl ?_
                    have k23 : ok τ (4, 1) (o + 1) := r_Cb_now hw ao (by omega)
                    refine z_getR (pc' := 107) (eI := o + 24) I g_Cb_165 k23 rfl (by omega) D_Cb_count_2.1.2.1 rfl ?_
                    have k24 : ok τ (0, 6) (o + 24) := r_Exam_used hw k23 (by omega)
                    refine z_s I (s_iload_n (pc' := 108) 1 rfl D_Cb_count_2.1.2.2.1 rfl rfl) ?_
                    refine z_s I (s_bipush (pc' := 110) D_Cb_count_2.1.2.2.2 rfl rfl) ?_
                    refine z_s I (s_isub (pc' := 111) D_Cb_count_2.2.1.1 rfl) ?_
                    refine z_iald (pc' := 112) (nI := 6) I k24 (inR_w32 _) rfl D_Cb_count_2.2.1.2 rfl (fun c25 f26 => ?_)
                    refine z_s I (s_goto (tgt := 117) D_Cb_count_2.2.2.1 rfl) ?_
                    exact z_ret (w := some (vI (h (o + 24) (w32 (x1 - 6))))) I (fun g => gk0 _ g f26) ⟨_, rfl⟩ D_Cb_count_2.2.2.2.2 rfl
  exact main _ hF (by rw [hG0])
set_option maxHeartbeats 4000000 in
set_option maxRecDepth 20000 in
theorem c_Tape_begin {l : Launch} {τ : TP} {o : Int} {x1 : Int} {x2 : Int} {h : HP} {h' : HP} (hw : wf τ) (ao : ok τ (4, 7) o) (ax1 : inR x1) (ax2 : inR x2) (hh : hr τ h) (hF : m_Tape_begin o x1 x2 h = some h') : Ctr l y_Tape_begin k_Tape_begin 4 (Option.none : Option FieldType) 0 0 τ (fun ad => [vR ad o, vI x1, vI x2]) h none h' (True) := by
  refine ctr_of (by decide) hw hh (fun ad => Nat.le_of_ble_eq_true rfl) (fun ad K Y I hK => ?_)
  obtain ⟨G0, hG0⟩ : ∃ G : HP → Prop, G = fun x => x = h' := ⟨_, rfl⟩
  have gk0 : ∀ (x : HP), G0 x → K none x := fun x g => by
    rw [hG0] at g
    cases g
    exact hK trivial
  have L12 : ∀ (s : Int × HP), (inR (s.1)) → Z Y (m_Tape_begin_L12 o s) G0 (s.2) 12 [(0, vR ad o), (3, vI (s.1))] [] := by
    intro s hs
    refine z_loop (G := G0) (hO := fun s : Int × HP => s.2) (lO := fun s : Int × HP => [(0, vR ad o), (3, vI (s.1))]) (Φ := fun s : Int × HP => inR (s.1)) (fun G1 hin1_1 hout1 s hs => ?_) FUEL s hs
    obtain ⟨x3, h⟩ := s
    have ax3 := hs
    have gk1 := fun (x : HP) (g : G1 (.inr (x))) => gk0 x (hout1 _ g)
    show Z Y (m_Tape_begin_L12b o x3 h) G1 h 12 [(0, vR ad o), (3, vI x3)] []
    unfold m_Tape_begin_L12b
    refine z_s I (s_iload_n (pc' := 13) 1 rfl D_Tape_begin_0.2.1.1.1 rfl rfl) ?_
    refine z_s I (s_bipush (pc' := 15) D_Tape_begin_0.2.1.1.2 rfl rfl) ?_
    refine z_icmp_ge (tgt := 31) (pc' := 18) I ax3 (inR_c (x := 60) rfl) D_Tape_begin_0.2.1.2.1 rfl rfl (fun c1 => ?_) (fun c1 => ?_)
    · exact z_ret (w := none) I (fun g => gk1 _ g) rfl D_Tape_begin_1.2.2 rfl
    · refine z_s I (s_aload_n (pc' := 19) 0 rfl D_Tape_begin_0.2.1.2.2 rfl rfl) ?_
      refine z_getR (pc' := 22) (eI := o + 1) I g_Tape_16 ao rfl (by omega) D_Tape_begin_0.2.2.1.1 rfl ?_
      have k2 : ok τ (1, 60) (o + 1) := r_Tape_row hw ao (by omega)
      refine z_s I (s_iload_n (pc' := 23) 1 rfl D_Tape_begin_0.2.2.1.2 rfl rfl) ?_
      refine z_s I (s_lconst (pc' := 24) (x := 0) D_Tape_begin_0.2.2.2.1 rfl rfl) ?_
      refine z_last (pc' := 25) (nI := 60) I k2 ax3 (inL_c (x := 0) rfl) rfl D_Tape_begin_0.2.2.2.2 rfl (fun c3 => ?_)
      refine z_bH (fun h4 e5 => ?_)
      refine z_s I (s_iinc (pc' := 28) (lv' := [(3, vI (w32 (x3 + 1))), (0, vR ad o)]) (n := 1) rfl D_Tape_begin_1.1 (by decide) rfl rfl) ?_
      refine z_s I (s_goto (tgt := 12) D_Tape_begin_1.2.1 rfl) ?_
      refine z_s I (s_lv (lv' := [(0, vR ad o), (3, vI (w32 (x3 + 1)))]) [1, 0] rfl) ?_
      exact z_end (fun g => hin1_1 _ g (inR_w32 _))
  have main : Z Y (m_Tape_begin o x1 x2 h) G0 h 0 [(0, vR ad o), (1, vI x1), (2, vI x2)] [] := by
    unfold m_Tape_begin
    refine z_s I (s_aload_n (pc' := 1) 0 rfl D_Tape_begin_0.1.1.1.1 rfl rfl) ?_
    refine z_s I (s_iload_n (pc' := 2) 1 rfl D_Tape_begin_0.1.1.1.2 rfl rfl) ?_
    refine z_putI (pc' := 5) (jI := 0) I p_Tape_9 ao rfl rfl ax1 D_Tape_begin_0.1.1.2.1 rfl ?_
    refine z_bH (fun h6 e7 => ?_)
    refine z_s I (s_aload_n (pc' := 6) 0 rfl D_Tape_begin_0.1.1.2.2 rfl rfl) ?_
    refine z_s I (s_iload_n (pc' := 7) 2 rfl D_Tape_begin_0.1.2.1.1 rfl rfl) ?_
    refine z_putI (pc' := 10) (jI := 1) I p_Tape_13 ao rfl rfl ax2 D_Tape_begin_0.1.2.1.2 rfl ?_
    refine z_bH (fun h8 e9 => ?_)
    refine z_s I (s_iconst (pc' := 11) D_Tape_begin_0.1.2.2.1 rfl) ?_
    refine z_s I (s_istore_n (pc' := 12) (lv' := [(3, vI 0), (0, vR ad o), (1, vI x1), (2, vI x2)]) D_Tape_begin_0.1.2.2.2 rfl (by decide) rfl rfl) ?_
    refine z_s I (s_lv (lv' := [(0, vR ad o), (3, vI 0)]) [1, 0] rfl) ?_
    exact L12 _ (b01.R bz0)
  exact main _ hF (by rw [hG0])
set_option maxHeartbeats 4000000 in
set_option maxRecDepth 20000 in
theorem c_Cb_tape {l : Launch} {τ : TP} {o : Int} {x1 : Int} {x2 : Int} {x3 : Int} {h : HP} {r : Int} {h' : HP} (hw : wf τ) (ao : ok τ (4, 9) o) (ax1 : inR x1) (ax2 : inR x2) (ax3 : inR x3) (hh : hr τ h) (hF : m_Cb_tape o x1 x2 x3 h = some (r, h')) : Ctr l y_Cb_tape k_Cb_tape 4 (Option.some FieldType.int) 1 23 τ (fun ad => [vR ad o, vI x1, vI x2, vI x3]) h (some (vI r)) h' (inR r) := by
  refine ctr_of (by decide) hw hh (fun ad => Nat.le_of_ble_eq_true rfl) (fun ad K Y I hK => ?_)
  obtain ⟨G0, hG0⟩ : ∃ G : Int × HP → Prop, G = fun x => x = (r, h') := ⟨_, rfl⟩
  have gk0 : ∀ (x : Int) (y : HP), G0 (x, y) → inR x → K (some (vI x)) y := fun x y g q => by
    rw [hG0] at g
    cases g
    exact hK q
  have main : Z Y (m_Cb_tape o x1 x2 x3 h) G0 h 0 [(0, vR ad o), (1, vI x1), (2, vI x2), (3, vI x3)] [] := by
    unfold m_Cb_tape
    refine z_s I (s_iload_n (pc' := 1) 1 rfl D_Cb_tape_0.1.1.1.1 rfl rfl) ?_
    refine z_b1 (fun r3 q2 => ?_)
    refine z_callS (pc' := 4) I mv_Cb_isTape ml_Cb_336 (fun ad => [vI x1]) ⟨Nat.le_of_ble_eq_true rfl, Nat.le_of_ble_eq_true rfl⟩ (fun hh => c_Cb_isTape hw ax1 hh q2) rfl rfl (Nat.le_of_ble_eq_true rfl) D_Cb_tape_0.1.1.1.2 rfl (fun f1 => ?_)
    refine z_if_ne (tgt := 9) (pc' := 7) I (b01.R f1) D_Cb_tape_0.1.1.2.1 rfl rfl (fun c4 => ?_) (fun c4 => ?_)
    · refine z_s I (s_iload_n (pc' := 10) 2 rfl D_Cb_tape_0.1.2.1.2 rfl rfl) ?_
      refine z_s I (s_iconst (pc' := 11) D_Cb_tape_0.1.2.2.1 rfl) ?_
      refine z_icmp_ne (tgt := 27) (pc' := 14) I ax2 (inR_c (x := (-1)) rfl) D_Cb_tape_0.1.2.2.2 rfl rfl (fun c5 => ?_) (fun c5 => ?_)
      · refine z_s I (s_iload_n (pc' := 28) 2 rfl D_Cb_tape_1.1.1.1.2 rfl rfl) ?_
        refine z_if_lt (tgt := 42) (pc' := 31) I ax2 D_Cb_tape_1.1.1.2.1 rfl rfl (fun c6 => ?_) (fun c6 => ?_)
        · refine z_s I (s_bipush (pc' := 44) D_Cb_tape_1.2.1.1.2 rfl rfl) ?_
          exact z_ret (w := some (vI (-2))) I (fun g => gk0 _ _ g (inR_c (x := (-2)) rfl)) ⟨_, rfl⟩ D_Cb_tape_1.2.1.2.1 rfl
        · refine z_s I (s_iload_n (pc' := 32) 2 rfl D_Cb_tape_1.1.1.2.2 rfl rfl) ?_
          refine z_s I (s_iconst (pc' := 33) D_Cb_tape_1.1.2.1.1 rfl) ?_
          refine z_icmp_gt (tgt := 42) (pc' := 36) I ax2 (inR_c (x := 4) rfl) D_Cb_tape_1.1.2.1.2 rfl rfl (fun c7 => ?_) (fun c7 => ?_)
          · refine z_s I (s_bipush (pc' := 44) D_Cb_tape_1.2.1.1.2 rfl rfl) ?_
            exact z_ret (w := some (vI (-2))) I (fun g => gk0 _ _ g (inR_c (x := (-2)) rfl)) ⟨_, rfl⟩ D_Cb_tape_1.2.1.2.1 rfl
          · refine z_s I (s_iload_n (pc' := 37) 3 rfl D_Cb_tape_1.1.2.2.1 rfl rfl) ?_
            refine z_s I (s_bipush (pc' := 39) D_Cb_tape_1.1.2.2.2 rfl rfl) ?_
            refine z_icmp_le (tgt := 45) (pc' := 42) I ax3 (inR_c (x := 60) rfl) D_Cb_tape_1.2.1.1.1 rfl rfl (fun c8 => ?_) (fun c8 => ?_)
            · refine z_s I (s_iload_n (pc' := 46) 3 rfl D_Cb_tape_1.2.1.2.2 rfl rfl) ?_
              refine z_if_ge (tgt := 52) (pc' := 49) I ax3 D_Cb_tape_1.2.2.1.1 rfl rfl (fun c9 => ?_) (fun c9 => ?_)
              · refine z_s I (s_aload_n (pc' := 53) 0 rfl D_Cb_tape_1.2.2.2.2 rfl rfl) ?_
                refine z_getR (pc' := 56) (eI := o + 93) I g_Cb_37 ao rfl (by omega) D_Cb_tape_2.1.1.1 rfl ?_
                have k10 : ok τ (3, 2) (o + 93) := r_Cb_tapes hw ao (by omega)
                refine z_s I (s_iload_n (pc' := 57) 1 rfl D_Cb_tape_2.1.1.2 rfl rfl) ?_
                refine z_aald (pc' := 58) (eI := o + 2 * x1 + 114) I 6 21 2 k10 ax1 rfl rfl rfl (by omega) D_Cb_tape_2.1.2.1 rfl (fun c11 => ?_)
                have k12 : ok τ (4, 7) (o + 2 * x1 + 114) := e_2 hw k10 c11 (by omega)
                refine z_s I (s_iload_n (pc' := 59) 2 rfl D_Cb_tape_2.1.2.2 rfl rfl) ?_
                refine z_s I (s_iload_n (pc' := 60) 3 rfl D_Cb_tape_2.2.1.1 rfl rfl) ?_
                refine z_b1 (fun h15 q14 => ?_)
                refine z_callV (pc' := 63) I mv_Tape_begin ml_Cb_356 (fun ad => [vI x2, vI x3]) ⟨Nat.le_of_ble_eq_true rfl, Nat.le_of_ble_eq_true rfl⟩ k12 (fun hh => c_Tape_begin hw k12 ax2 ax3 hh q14) rfl rfl (Nat.le_of_ble_eq_true rfl) D_Cb_tape_2.2.1.2 rfl (fun f13 => ?_)
                refine z_s I (s_iconst (pc' := 64) D_Cb_tape_2.2.2.1 rfl) ?_
                exact z_ret (w := some (vI 1)) I (fun g => gk0 _ _ g (b01.R bz1)) ⟨_, rfl⟩ D_Cb_tape_2.2.2.2 rfl
              · refine z_s I (s_bipush (pc' := 51) D_Cb_tape_1.2.2.1.2 rfl rfl) ?_
                exact z_ret (w := some (vI (-14))) I (fun g => gk0 _ _ g (inR_c (x := (-14)) rfl)) ⟨_, rfl⟩ D_Cb_tape_1.2.2.2.1 rfl
            · refine z_s I (s_bipush (pc' := 44) D_Cb_tape_1.2.1.1.2 rfl rfl) ?_
              exact z_ret (w := some (vI (-2))) I (fun g => gk0 _ _ g (inR_c (x := (-2)) rfl)) ⟨_, rfl⟩ D_Cb_tape_1.2.1.2.1 rfl
      · refine z_s I (s_aload_n (pc' := 15) 0 rfl D_Cb_tape_0.2.1.1.1 rfl rfl) ?_
        refine z_getR (pc' := 18) (eI := o + 93) I g_Cb_37 ao rfl (by omega) D_Cb_tape_0.2.1.1.2 rfl ?_
        have k16 : ok τ (3, 2) (o + 93) := r_Cb_tapes hw ao (by omega)
        refine z_s I (s_iload_n (pc' := 19) 1 rfl D_Cb_tape_0.2.1.2.1 rfl rfl) ?_
        refine z_aald (pc' := 20) (eI := o + 2 * x1 + 114) I 6 21 2 k16 ax1 rfl rfl rfl (by omega) D_Cb_tape_0.2.1.2.2 rfl (fun c17 => ?_)
        have k18 : ok τ (4, 7) (o + 2 * x1 + 114) := e_2 hw k16 c17 (by omega)
        refine z_s I (s_iconst (pc' := 21) D_Cb_tape_0.2.2.1.1 rfl) ?_
        refine z_s I (s_iconst (pc' := 22) D_Cb_tape_0.2.2.1.2 rfl) ?_
        refine z_b1 (fun h21 q20 => ?_)
        refine z_callV (pc' := 25) I mv_Tape_begin ml_Cb_356 (fun ad => [vI (-1), vI 0]) ⟨Nat.le_of_ble_eq_true rfl, Nat.le_of_ble_eq_true rfl⟩ k18 (fun hh => c_Tape_begin hw k18 (inR_c (x := (-1)) rfl) (b01.R bz0) hh q20) rfl rfl (Nat.le_of_ble_eq_true rfl) D_Cb_tape_0.2.2.2.1 rfl (fun f19 => ?_)
        refine z_s I (s_iconst (pc' := 26) D_Cb_tape_0.2.2.2.2 rfl) ?_
        exact z_ret (w := some (vI 1)) I (fun g => gk0 _ _ g (b01.R bz1)) ⟨_, rfl⟩ D_Cb_tape_1.1.1.1.1 rfl
    · refine z_s I (s_iconst (pc' := 8) D_Cb_tape_0.1.1.2.2 rfl) ?_
      exact z_ret (w := some (vI (-1))) I (fun g => gk0 _ _ g (inR_c (x := (-1)) rfl)) ⟨_, rfl⟩ D_Cb_tape_0.1.2.1.1 rfl
  exact main _ hF (by rw [hG0])
set_option maxHeartbeats 4000000 in
set_option maxRecDepth 20000 in
theorem c_Tape_hasPlace {l : Launch} {τ : TP} {o : Int} {x1 : Int} {h : HP} {r : Int} (hw : wf τ) (ao : ok τ (4, 7) o) (ax1 : inR x1) (hh : hr τ h) (hF : m_Tape_hasPlace o x1 h = some r) : Ctr l y_Tape_hasPlace k_Tape_hasPlace 2 (Option.some FieldType.boolean) 0 0 τ (fun ad => [vR ad o, vI x1]) h (some (vI r)) h (b01 r) := by
  refine ctr_of (by decide) hw hh (fun ad => Nat.le_of_ble_eq_true rfl) (fun ad K Y I hK => ?_)
  obtain ⟨G0, hG0⟩ : ∃ G : Int → Prop, G = fun x => x = r := ⟨_, rfl⟩
  have gk0 : ∀ (x : Int), G0 x → b01 x → K (some (vI x)) h := fun x g q => by
    rw [hG0] at g
    cases g
    exact hK q
  have main : Z Y (m_Tape_hasPlace o x1 h) G0 h 0 [(0, vR ad o), (1, vI x1)] [] := by
    unfold m_Tape_hasPlace
    refine z_s I (s_iload_n (pc' := 1) 1 rfl D_Tape_hasPlace_0.1.1.1 rfl rfl) ?_
    refine z_if_lt (tgt := 16) (pc' := 4) I ax1 D_Tape_hasPlace_0.1.1.2 rfl rfl (fun c1 => ?_) (fun c1 => ?_)
    · refine z_s I (s_iconst (pc' := 17) D_Tape_hasPlace_0.2.2.2.1 rfl) ?_
      exact z_ret (w := some (vI 0)) I (fun g => gk0 _ g bz0) ⟨_, bz0, rfl⟩ D_Tape_hasPlace_0.2.2.2.2 rfl
    · refine z_s I (s_iload_n (pc' := 5) 1 rfl D_Tape_hasPlace_0.1.2.1 rfl rfl) ?_
      refine z_s I (s_aload_n (pc' := 6) 0 rfl D_Tape_hasPlace_0.1.2.2.1 rfl rfl) ?_
      refine z_getI (pc' := 9) (jI := 1) I g_Tape_13 ao rfl rfl D_Tape_hasPlace_0.1.2.2.2 rfl (fun f2 => ?_)
      refine z_icmp_ge (tgt := 16) (pc' := 12) I ax1 f2 D_Tape_hasPlace_0.2.1.1 rfl rfl (fun c3 => ?_) (fun c3 => ?_)
      · refine z_s I (s_iconst (pc' := 17) D_Tape_hasPlace_0.2.2.2.1 rfl) ?_
        exact z_ret (w := some (vI 0)) I (fun g => gk0 _ g bz0) ⟨_, bz0, rfl⟩ D_Tape_hasPlace_0.2.2.2.2 rfl
      · refine z_s I (s_iconst (pc' := 13) D_Tape_hasPlace_0.2.1.2 rfl) ?_
        refine z_s I (s_goto (tgt := 17) D_Tape_hasPlace_0.2.2.1 rfl) ?_
        exact z_ret (w := some (vI 1)) I (fun g => gk0 _ g bz1) ⟨_, bz1, rfl⟩ D_Tape_hasPlace_0.2.2.2.2 rfl
  exact main _ hF (by rw [hG0])
set_option maxHeartbeats 4000000 in
set_option maxRecDepth 20000 in
theorem c_Tape_fitted {l : Launch} {τ : TP} {o : Int} {l1 : Int} {h : HP} {r : Int} (hw : wf τ) (ao : ok τ (4, 7) o) (al1 : inL l1) (hh : hr τ h) (hF : m_Tape_fitted o l1 h = some r) : Ctr l y_Tape_fitted k_Tape_fitted 3 (Option.some FieldType.long) 0 0 τ (fun ad => [vR ad o, vL l1]) h (some (vL r)) h (inL r) := by
  refine ctr_of (by decide) hw hh (fun ad => Nat.le_of_ble_eq_true rfl) (fun ad K Y I hK => ?_)
  obtain ⟨G0, hG0⟩ : ∃ G : Int → Prop, G = fun x => x = r := ⟨_, rfl⟩
  have gk0 : ∀ (x : Int), G0 x → inL x → K (some (vL x)) h := fun x g q => by
    rw [hG0] at g
    cases g
    exact hK q
  have main : Z Y (m_Tape_fitted o l1 h) G0 h 0 [(0, vR ad o), (1, vL l1)] [] := by
    unfold m_Tape_fitted
    refine z_s I (s_aload_n (pc' := 1) 0 rfl D_Tape_fitted_0.1.1.1.1 rfl rfl) ?_
    refine z_getI (pc' := 4) (jI := 0) I g_Tape_9 ao rfl rfl D_Tape_fitted_0.1.1.1.2 rfl (fun f1 => ?_)
    refine z_tin (tgt := 36) I f1 D_Tape_fitted_0.1.1.2.1 0 ⟨by decide, by decide⟩ rfl rfl (fun c2 => ?_) (fun c2 => ?_)
    · refine z_s I (s_lload_n (pc' := 37) 1 rfl D_Tape_fitted_0.1.1.2.2 rfl rfl) ?_
      refine z_s I (s_l2i (pc' := 38) D_Tape_fitted_0.1.2.1.1 rfl) ?_
      refine z_s I (s_i2b (pc' := 39) D_Tape_fitted_0.1.2.1.2 rfl) ?_
      refine z_s I (s_i2l (pc' := 40) (r_i2b _) D_Tape_fitted_0.1.2.2.1 rfl) ?_
      exact z_ret (w := some (vL (i2b (l2i l1)))) I (fun g => gk0 _ g ((r_i2b _)).L) ⟨_, rfl⟩ D_Tape_fitted_0.1.2.2.2 rfl
    · skip
      refine z_tin (tgt := 41) I f1 D_Tape_fitted_0.1.1.2.1 1 ⟨by decide, by decide⟩ rfl rfl (fun c3 => ?_) (fun c3 => ?_)
      · refine z_s I (s_lload_n (pc' := 42) 1 rfl D_Tape_fitted_0.2.1.1.1 rfl rfl) ?_
        refine z_s I (s_l2i (pc' := 43) D_Tape_fitted_0.2.1.1.2 rfl) ?_
        refine z_s I (s_i2s (pc' := 44) D_Tape_fitted_0.2.1.2.1 rfl) ?_
        refine z_s I (s_i2l (pc' := 45) (r_i2s _) D_Tape_fitted_0.2.1.2.2 rfl) ?_
        exact z_ret (w := some (vL (i2s (l2i l1)))) I (fun g => gk0 _ g ((r_i2s _)).L) ⟨_, rfl⟩ D_Tape_fitted_0.2.2.1.1 rfl
      · skip
        refine z_tin (tgt := 46) I f1 D_Tape_fitted_0.1.1.2.1 2 ⟨by decide, by decide⟩ rfl rfl (fun c4 => ?_) (fun c4 => ?_)
        · refine z_s I (s_lload_n (pc' := 47) 1 rfl D_Tape_fitted_0.2.2.1.2 rfl rfl) ?_
          refine z_s I (s_l2i (pc' := 48) D_Tape_fitted_0.2.2.2.1 rfl) ?_
          refine z_s I (s_i2l (pc' := 49) (r_l2i _) D_Tape_fitted_0.2.2.2.2 rfl) ?_
          exact z_ret (w := some (vL (l2i l1))) I (fun g => gk0 _ g ((r_l2i _)).L) ⟨_, rfl⟩ D_Tape_fitted_1.1.1.1 rfl
        · skip
          refine z_tin (tgt := 50) I f1 D_Tape_fitted_0.1.1.2.1 3 ⟨by decide, by decide⟩ rfl rfl (fun c5 => ?_) (fun c5 => ?_)
          · refine z_s I (s_lload_n (pc' := 51) 1 rfl D_Tape_fitted_1.1.1.2 rfl rfl) ?_
            exact z_ret (w := some (vL l1)) I (fun g => gk0 _ g al1) ⟨_, rfl⟩ D_Tape_fitted_1.1.2.1 rfl
          · skip
            refine z_tout (tgt := 52) I f1 D_Tape_fitted_0.1.1.2.1 (by omega) rfl ?_
            refine z_s I (s_lload_n (pc' := 53) 1 rfl D_Tape_fitted_1.1.2.2.1 rfl rfl) ?_
            refine z_s I (s_lconst (pc' := 54) (x := 0) D_Tape_fitted_1.1.2.2.2 rfl rfl) ?_
            refine z_s I (s_lcmp (pc' := 55) al1 (inL_c (x := 0) rfl) D_Tape_fitted_1.2.1.1 rfl) ?_
            refine z_if_eq (tgt := 62) (pc' := 58) I (inR_lCmp _ _) D_Tape_fitted_1.2.1.2.1 rfl rfl (fun c6 => ?_) (fun c6 => ?_)
            · refine z_s I (s_lconst (pc' := 63) (x := 0) D_Tape_fitted_1.2.2.2.1 rfl rfl) ?_
              exact z_ret (w := some (vL 0)) I (fun g => gk0 _ g (inL_c (x := 0) rfl)) ⟨_, rfl⟩ D_Tape_fitted_1.2.2.2.2 rfl
            · refine z_s I (s_lconst (pc' := 59) (x := 1) D_Tape_fitted_1.2.1.2.2 rfl rfl) ?_
              refine z_s I (s_goto (tgt := 63) D_Tape_fitted_1.2.2.1 rfl) ?_
              exact z_ret (w := some (vL 1)) I (fun g => gk0 _ g (inL_c (x := 1) rfl)) ⟨_, rfl⟩ D_Tape_fitted_1.2.2.2.2 rfl
  exact main _ hF (by rw [hG0])
set_option maxHeartbeats 4000000 in
set_option maxRecDepth 20000 in
theorem c_Cb_item {l : Launch} {τ : TP} {o : Int} {x1 : Int} {x2 : Int} {l3 : Int} {h : HP} {r : Int} {h' : HP} (hw : wf τ) (ao : ok τ (4, 9) o) (ax1 : inR x1) (ax2 : inR x2) (al3 : inL l3) (hh : hr τ h) (hF : m_Cb_item o x1 x2 l3 h = some (r, h')) : Ctr l y_Cb_item k_Cb_item 6 (Option.some FieldType.int) 1 22 τ (fun ad => [vR ad o, vI x1, vI x2, vL l3]) h (some (vI r)) h' (inR r) := by
  refine ctr_of (by decide) hw hh (fun ad => Nat.le_of_ble_eq_true rfl) (fun ad K Y I hK => ?_)
  obtain ⟨G0, hG0⟩ : ∃ G : Int × HP → Prop, G = fun x => x = (r, h') := ⟨_, rfl⟩
  have gk0 : ∀ (x : Int) (y : HP), G0 (x, y) → inR x → K (some (vI x)) y := fun x y g q => by
    rw [hG0] at g
    cases g
    exact hK q
  have main : Z Y (m_Cb_item o x1 x2 l3 h) G0 h 0 [(0, vR ad o), (1, vI x1), (2, vI x2), (3, vL l3)] [] := by
    unfold m_Cb_item
    refine z_s I (s_iload_n (pc' := 1) 1 rfl D_Cb_item_0.1.1.1.1 rfl rfl) ?_
    refine z_b1 (fun r3 q2 => ?_)
    refine z_callS (pc' := 4) I mv_Cb_isTape ml_Cb_336 (fun ad => [vI x1]) ⟨Nat.le_of_ble_eq_true rfl, Nat.le_of_ble_eq_true rfl⟩ (fun hh => c_Cb_isTape hw ax1 hh q2) rfl rfl (Nat.le_of_ble_eq_true rfl) D_Cb_item_0.1.1.1.2 rfl (fun f1 => ?_)
    refine z_if_ne (tgt := 9) (pc' := 7) I (b01.R f1) D_Cb_item_0.1.1.2.1 rfl rfl (fun c4 => ?_) (fun c4 => ?_)
    · refine z_s I (s_aload_n (pc' := 10) 0 rfl D_Cb_item_0.1.2.1.2 rfl rfl) ?_
      refine z_getR (pc' := 13) (eI := o + 93) I g_Cb_37 ao rfl (by omega) D_Cb_item_0.1.2.2.1 rfl ?_
      have k5 : ok τ (3, 2) (o + 93) := r_Cb_tapes hw ao (by omega)
      refine z_s I (s_iload_n (pc' := 14) 1 rfl D_Cb_item_0.1.2.2.2 rfl rfl) ?_
      refine z_aald (pc' := 15) (eI := o + 2 * x1 + 114) I 6 21 2 k5 ax1 rfl rfl rfl (by omega) D_Cb_item_0.2.1.1.1 rfl (fun c6 => ?_)
      have k7 : ok τ (4, 7) (o + 2 * x1 + 114) := e_2 hw k5 c6 (by omega)
      refine z_bR k7 (fun v8 e9 f10 => ?_)
      refine z_s I (s_astore (pc' := 17) (lv' := [(5, vR ad v8), (0, vR ad o), (1, vI x1), (2, vI x2), (3, vL l3)]) D_Cb_item_0.2.1.1.2 (by decide) rfl rfl) ?_
      refine z_s I (s_aload (pc' := 19) 0 rfl D_Cb_item_0.2.1.2.1 rfl) ?_
      refine z_b1 (fun r13 q12 => ?_)
      refine z_callV (pc' := 22) I mv_Tape_holdsNothing ml_Cb_339 (fun ad => []) ⟨Nat.le_of_ble_eq_true rfl, Nat.le_of_ble_eq_true rfl⟩ f10 (fun hh => c_Tape_holdsNothing hw f10 hh q12) rfl rfl (Nat.le_of_ble_eq_true rfl) D_Cb_item_0.2.1.2.2 rfl (fun f11 => ?_)
      refine z_if_eq (tgt := 28) (pc' := 25) I (b01.R f11) D_Cb_item_0.2.2.1.1 rfl rfl (fun c14 => ?_) (fun c14 => ?_)
      · refine z_s I (s_aload (pc' := 30) 0 rfl D_Cb_item_0.2.2.2.2 rfl) ?_
        refine z_s I (s_iload_n (pc' := 31) 3 rfl D_Cb_item_1.1.1.1 rfl rfl) ?_
        refine z_b1 (fun r17 q16 => ?_)
        refine z_callV (pc' := 34) I mv_Tape_hasPlace ml_Cb_359 (fun ad => [vI x2]) ⟨Nat.le_of_ble_eq_true rfl, Nat.le_of_ble_eq_true rfl⟩ f10 (fun hh => c_Tape_hasPlace hw f10 ax2 hh q16) rfl rfl (Nat.le_of_ble_eq_true rfl) D_Cb_item_1.1.1.2.1 rfl (fun f15 => ?_)
        refine z_if_ne (tgt := 40) (pc' := 37) I (b01.R f15) D_Cb_item_1.1.1.2.2 rfl rfl (fun c18 => ?_) (fun c18 => ?_)
        · refine z_s I (s_aload (pc' := 42) 0 rfl D_Cb_item_1.1.2.2.1 rfl) ?_
          refine z_getR (pc' := 45) (eI := v8 + 1) I g_Cb_348 f10 rfl (by omega) D_Cb_item_1.1.2.2.2 rfl ?_
          have k19 : ok τ (1, 60) (v8 + 1) := r_Tape_row hw f10 (by omega)
          refine z_s I (s_iload_n (pc' := 46) 3 rfl D_Cb_item_1.2.1.1 rfl rfl) ?_
          refine z_s I (s_aload (pc' := 48) 0 rfl D_Cb_item_1.2.1.2.1 rfl) ?_
          refine z_s I (s_lload_n (pc' := 49) 4 rfl D_Cb_item_1.2.1.2.2 rfl rfl) ?_
          refine z_b1 (fun r22 q21 => ?_)
          refine z_callV (pc' := 52) I mv_Tape_fitted ml_Cb_362 (fun ad => [vL l3]) ⟨Nat.le_of_ble_eq_true rfl, Nat.le_of_ble_eq_true rfl⟩ f10 (fun hh => c_Tape_fitted hw f10 al3 hh q21) rfl rfl (Nat.le_of_ble_eq_true rfl) D_Cb_item_1.2.2.1.1 rfl (fun f20 => ?_)
          refine z_last (pc' := 53) (nI := 60) I k19 ax2 f20 rfl D_Cb_item_1.2.2.1.2 rfl (fun c23 => ?_)
          refine z_bH (fun h24 e25 => ?_)
          refine z_s I (s_iconst (pc' := 54) D_Cb_item_1.2.2.2.1 rfl) ?_
          exact z_ret (w := some (vI 1)) I (fun g => gk0 _ _ g (b01.R bz1)) ⟨_, rfl⟩ D_Cb_item_1.2.2.2.2 rfl
        · refine z_s I (s_bipush (pc' := 39) D_Cb_item_1.1.2.1.1 rfl rfl) ?_
          exact z_ret (w := some (vI (-13))) I (fun g => gk0 _ _ g (inR_c (x := (-13)) rfl)) ⟨_, rfl⟩ D_Cb_item_1.1.2.1.2 rfl
      · refine z_s I (s_bipush (pc' := 27) D_Cb_item_0.2.2.1.2 rfl rfl) ?_
        exact z_ret (w := some (vI (-11))) I (fun g => gk0 _ _ g (inR_c (x := (-11)) rfl)) ⟨_, rfl⟩ D_Cb_item_0.2.2.2.1 rfl
    · refine z_s I (s_iconst (pc' := 8) D_Cb_item_0.1.1.2.2 rfl) ?_
      exact z_ret (w := some (vI (-1))) I (fun g => gk0 _ _ g (inR_c (x := (-1)) rfl)) ⟨_, rfl⟩ D_Cb_item_0.1.2.1.1 rfl
  exact main _ hF (by rw [hG0])
set_option maxHeartbeats 4000000 in
set_option maxRecDepth 20000 in
theorem c_Cb_peek {l : Launch} {τ : TP} {o : Int} {x1 : Int} {x2 : Int} {h : HP} {r : Int} (hw : wf τ) (ao : ok τ (4, 9) o) (ax1 : inR x1) (ax2 : inR x2) (hh : hr τ h) (hF : m_Cb_peek o x1 x2 h = some r) : Ctr l y_Cb_peek k_Cb_peek 3 (Option.some FieldType.long) 1 21 τ (fun ad => [vR ad o, vI x1, vI x2]) h (some (vL r)) h (inL r) := by
  refine ctr_of (by decide) hw hh (fun ad => Nat.le_of_ble_eq_true rfl) (fun ad K Y I hK => ?_)
  obtain ⟨G0, hG0⟩ : ∃ G : Int → Prop, G = fun x => x = r := ⟨_, rfl⟩
  have gk0 : ∀ (x : Int), G0 x → inL x → K (some (vL x)) h := fun x g q => by
    rw [hG0] at g
    cases g
    exact hK q
  have main : Z Y (m_Cb_peek o x1 x2 h) G0 h 0 [(0, vR ad o), (1, vI x1), (2, vI x2)] [] := by
    unfold m_Cb_peek
    refine z_s I (s_iload_n (pc' := 1) 1 rfl D_Cb_peek_0.1.1.1.1 rfl rfl) ?_
    refine z_b1 (fun r3 q2 => ?_)
    refine z_callS (pc' := 4) I mv_Cb_isTape ml_Cb_336 (fun ad => [vI x1]) ⟨Nat.le_of_ble_eq_true rfl, Nat.le_of_ble_eq_true rfl⟩ (fun hh => c_Cb_isTape hw ax1 hh q2) rfl rfl (Nat.le_of_ble_eq_true rfl) D_Cb_peek_0.1.1.1.2 rfl (fun f1 => ?_)
    refine z_if_eq (tgt := 20) (pc' := 7) I (b01.R f1) D_Cb_peek_0.1.1.2.1 rfl rfl (fun c4 => ?_) (fun c4 => ?_)
    · refine z_ldc2 (pc' := 23) (x := (-9223372036854775808)) I cl_Cb_215 (by decide +kernel) D_Cb_peek_0.2.1.2.1 rfl ?_
      exact z_ret (w := some (vL (-9223372036854775808))) I (fun g => gk0 _ g (inL_c (x := (-9223372036854775808)) rfl)) ⟨_, rfl⟩ D_Cb_peek_0.2.1.2.2 rfl
    · refine z_s I (s_aload_n (pc' := 8) 0 rfl D_Cb_peek_0.1.1.2.2 rfl rfl) ?_
      refine z_getR (pc' := 11) (eI := o + 93) I g_Cb_37 ao rfl (by omega) D_Cb_peek_0.1.2.1.1 rfl ?_
      have k5 : ok τ (3, 2) (o + 93) := r_Cb_tapes hw ao (by omega)
      refine z_s I (s_iload_n (pc' := 12) 1 rfl D_Cb_peek_0.1.2.1.2 rfl rfl) ?_
      refine z_aald (pc' := 13) (eI := o + 2 * x1 + 114) I 6 21 2 k5 ax1 rfl rfl rfl (by omega) D_Cb_peek_0.1.2.2.1 rfl (fun c6 => ?_)
      have k7 : ok τ (4, 7) (o + 2 * x1 + 114) := e_2 hw k5 c6 (by omega)
      refine z_s I (s_iload_n (pc' := 14) 2 rfl D_Cb_peek_0.1.2.2.2 rfl rfl) ?_
      refine z_b1 (fun r10 q9 => ?_)
      refine z_callV (pc' := 17) I mv_Tape_hasPlace ml_Cb_359 (fun ad => [vI x2]) ⟨Nat.le_of_ble_eq_true rfl, Nat.le_of_ble_eq_true rfl⟩ k7 (fun hh => c_Tape_hasPlace hw k7 ax2 hh q9) rfl rfl (Nat.le_of_ble_eq_true rfl) D_Cb_peek_0.2.1.1.1 rfl (fun f8 => ?_)
      refine z_if_ne (tgt := 24) (pc' := 20) I (b01.R f8) D_Cb_peek_0.2.1.1.2 rfl rfl (fun c11 => ?_) (fun c11 => ?_)
      · refine z_s I (s_aload_n (pc' := 25) 0 rfl D_Cb_peek_0.2.2.1.1 rfl rfl) ?_
        refine z_getR (pc' := 28) (eI := o + 93) I g_Cb_37 ao rfl (by omega) D_Cb_peek_0.2.2.1.2 rfl ?_
        have k12 : ok τ (3, 2) (o + 93) := r_Cb_tapes hw ao (by omega)
        refine z_s I (s_iload_n (pc' := 29) 1 rfl D_Cb_peek_0.2.2.2.1 rfl rfl) ?_
        refine z_aald (pc' := 30) (eI := o + 2 * x1 + 114) I 6 21 2 k12 ax1 rfl rfl rfl (by omega) D_Cb_peek_0.2.2.2.2 rfl (fun c13 => ?_)
        have k14 : ok τ (4, 7) (o + 2 * x1 + 114) := e_2 hw k12 c13 (by omega)
        refine z_getR (pc' := 33) (eI := o + 2 * x1 + 115) I g_Cb_348 k14 rfl (by omega) D_Cb_peek_1.1.1 rfl ?_
        have k15 : ok τ (1, 60) (o + 2 * x1 + 115) := r_Tape_row hw k14 (by omega)
        refine z_s I (s_iload_n (pc' := 34) 2 rfl D_Cb_peek_1.1.2 rfl rfl) ?_
        refine z_lald (pc' := 35) (nI := 60) I k15 ax2 rfl D_Cb_peek_1.2.1 rfl (fun c16 f17 => ?_)
        exact z_ret (w := some (vL (h (o + 2 * x1 + 115) x2))) I (fun g => gk0 _ g f17) ⟨_, rfl⟩ D_Cb_peek_1.2.2 rfl
      · refine z_ldc2 (pc' := 23) (x := (-9223372036854775808)) I cl_Cb_215 (by decide +kernel) D_Cb_peek_0.2.1.2.1 rfl ?_
        exact z_ret (w := some (vL (-9223372036854775808))) I (fun g => gk0 _ g (inL_c (x := (-9223372036854775808)) rfl)) ⟨_, rfl⟩ D_Cb_peek_0.2.1.2.2 rfl
  exact main _ hF (by rw [hG0])
set_option maxHeartbeats 4000000 in
set_option maxRecDepth 20000 in
theorem c_Tape_hasStretch {l : Launch} {τ : TP} {o : Int} {x1 : Int} {x2 : Int} {h : HP} {r : Int} (hw : wf τ) (ao : ok τ (4, 7) o) (ax1 : inR x1) (ax2 : inR x2) (hh : hr τ h) (hF : m_Tape_hasStretch o x1 x2 h = some r) : Ctr l y_Tape_hasStretch k_Tape_hasStretch 3 (Option.some FieldType.boolean) 0 0 τ (fun ad => [vR ad o, vI x1, vI x2]) h (some (vI r)) h (b01 r) := by
  refine ctr_of (by decide) hw hh (fun ad => Nat.le_of_ble_eq_true rfl) (fun ad K Y I hK => ?_)
  obtain ⟨G0, hG0⟩ : ∃ G : Int → Prop, G = fun x => x = r := ⟨_, rfl⟩
  have gk0 : ∀ (x : Int), G0 x → b01 x → K (some (vI x)) h := fun x g q => by
    rw [hG0] at g
    cases g
    exact hK q
  have main : Z Y (m_Tape_hasStretch o x1 x2 h) G0 h 0 [(0, vR ad o), (1, vI x1), (2, vI x2)] [] := by
    unfold m_Tape_hasStretch
    refine z_s I (s_iload_n (pc' := 1) 2 rfl D_Tape_hasStretch_0.1.1.1.1 rfl rfl) ?_
    refine z_if_lt (tgt := 30) (pc' := 4) I ax2 D_Tape_hasStretch_0.1.1.1.2 rfl rfl (fun c1 => ?_) (fun c1 => ?_)
    · refine z_s I (s_iconst (pc' := 31) D_Tape_hasStretch_1.1 rfl) ?_
      exact z_ret (w := some (vI 0)) I (fun g => gk0 _ g bz0) ⟨_, bz0, rfl⟩ D_Tape_hasStretch_1.2 rfl
    · refine z_s I (s_iload_n (pc' := 5) 2 rfl D_Tape_hasStretch_0.1.1.2.1 rfl rfl) ?_
      refine z_s I (s_aload_n (pc' := 6) 0 rfl D_Tape_hasStretch_0.1.1.2.2 rfl rfl) ?_
      refine z_getI (pc' := 9) (jI := 1) I g_Tape_13 ao rfl rfl D_Tape_hasStretch_0.1.2.1.1 rfl (fun f2 => ?_)
      refine z_icmp_gt (tgt := 30) (pc' := 12) I ax2 f2 D_Tape_hasStretch_0.1.2.1.2 rfl rfl (fun c3 => ?_) (fun c3 => ?_)
      · refine z_s I (s_iconst (pc' := 31) D_Tape_hasStretch_1.1 rfl) ?_
        exact z_ret (w := some (vI 0)) I (fun g => gk0 _ g bz0) ⟨_, bz0, rfl⟩ D_Tape_hasStretch_1.2 rfl
      · refine z_s I (s_iload_n (pc' := 13) 1 rfl D_Tape_hasStretch_0.1.2.2.1 rfl rfl) ?_
        refine z_if_lt (tgt := 30) (pc' := 16) I ax1 D_Tape_hasStretch_0.1.2.2.2 rfl rfl (fun c4 => ?_) (fun c4 => ?_)
        · refine z_s I (s_iconst (pc' := 31) D_Tape_hasStretch_1.1 rfl) ?_
          exact z_ret (w := some (vI 0)) I (fun g => gk0 _ g bz0) ⟨_, bz0, rfl⟩ D_Tape_hasStretch_1.2 rfl
        · refine z_s I (s_iload_n (pc' := 17) 1 rfl D_Tape_hasStretch_0.2.1.1.1 rfl rfl) ?_
          refine z_s I (s_aload_n (pc' := 18) 0 rfl D_Tape_hasStretch_0.2.1.1.2 rfl rfl) ?_
          refine z_getI (pc' := 21) (jI := 1) I g_Tape_13 ao rfl rfl D_Tape_hasStretch_0.2.1.2.1 rfl (fun f5 => ?_)
          refine z_s I (s_iload_n (pc' := 22) 2 rfl D_Tape_hasStretch_0.2.1.2.2 rfl rfl) ?_
          refine z_s I (s_isub (pc' := 23) D_Tape_hasStretch_0.2.2.1.1 rfl) ?_
          refine z_icmp_gt (tgt := 30) (pc' := 26) I ax1 (inR_w32 _) D_Tape_hasStretch_0.2.2.1.2 rfl rfl (fun c6 => ?_) (fun c6 => ?_)
          · refine z_s I (s_iconst (pc' := 31) D_Tape_hasStretch_1.1 rfl) ?_
            exact z_ret (w := some (vI 0)) I (fun g => gk0 _ g bz0) ⟨_, bz0, rfl⟩ D_Tape_hasStretch_1.2 rfl
          · refine z_s I (s_iconst (pc' := 27) D_Tape_hasStretch_0.2.2.2.1 rfl) ?_
            refine z_s I (s_goto (tgt := 31) D_Tape_hasStretch_0.2.2.2.2 rfl) ?_
            exact z_ret (w := some (vI 1)) I (fun g => gk0 _ g bz1) ⟨_, bz1, rfl⟩ D_Tape_hasStretch_1.2 rfl
  exact main _ hF (by rw [hG0])
set_option maxHeartbeats 4000000 in
set_option maxRecDepth 20000 in
theorem c_Cb_shift {l : Launch} {τ : TP} {o : Int} {x1 : Int} {x2 : Int} {x3 : Int} {x4 : Int} {x5 : Int} {h : HP} {r : Int} {h' : HP} (hw : wf τ) (ao : ok τ (4, 9) o) (ax1 : inR x1) (ax2 : inR x2) (ax3 : inR x3) (ax4 : inR x4) (ax5 : inR x5) (hh : hr τ h) (hF : m_Cb_shift o x1 x2 x3 x4 x5 h = some (r, h')) : Ctr l y_Cb_shift k_Cb_shift 8 (Option.some FieldType.int) 1 26 τ (fun ad => [vR ad o, vI x1, vI x2, vI x3, vI x4, vI x5]) h (some (vI r)) h' (inR r) := by
  refine ctr_of (by decide) hw hh (fun ad => Nat.le_of_ble_eq_true rfl) (fun ad K Y I hK => ?_)
  obtain ⟨G0, hG0⟩ : ∃ G : Int × HP → Prop, G = fun x => x = (r, h') := ⟨_, rfl⟩
  have gk0 : ∀ (x : Int) (y : HP), G0 (x, y) → inR x → K (some (vI x)) y := fun x y g q => by
    rw [hG0] at g
    cases g
    exact hK q
  have main : Z Y (m_Cb_shift o x1 x2 x3 x4 x5 h) G0 h 0 [(0, vR ad o), (1, vI x1), (2, vI x2), (3, vI x3), (4, vI x4), (5, vI x5)] [] := by
    unfold m_Cb_shift
    refine z_s I (s_iload_n (pc' := 1) 1 rfl D_Cb_shift_0.1.1.1.1 rfl rfl) ?_
    refine z_b1 (fun r3 q2 => ?_)
    refine z_callS (pc' := 4) I mv_Cb_isTape ml_Cb_336 (fun ad => [vI x1]) ⟨Nat.le_of_ble_eq_true rfl, Nat.le_of_ble_eq_true rfl⟩ (fun hh => c_Cb_isTape hw ax1 hh q2) rfl rfl (Nat.le_of_ble_eq_true rfl) D_Cb_shift_0.1.1.1.2 rfl (fun f1 => ?_)
    refine z_if_eq (tgt := 14) (pc' := 7) I (b01.R f1) D_Cb_shift_0.1.1.2.1 rfl rfl (fun c4 => ?_) (fun c4 => ?_)
    · refine z_s I (s_iconst (pc' := 15) D_Cb_shift_0.1.2.2.1 rfl) ?_
      exact z_ret (w := some (vI (-1))) I (fun g => gk0 _ _ g (inR_c (x := (-1)) rfl)) ⟨_, rfl⟩ D_Cb_shift_0.1.2.2.2 rfl
    · refine z_s I (s_iload_n (pc' := 8) 3 rfl D_Cb_shift_0.1.1.2.2 rfl rfl) ?_
      refine z_b1 (fun r7 q6 => ?_)
      refine z_callS (pc' := 11) I mv_Cb_isTape ml_Cb_336 (fun ad => [vI x3]) ⟨Nat.le_of_ble_eq_true rfl, Nat.le_of_ble_eq_true rfl⟩ (fun hh => c_Cb_isTape hw ax3 hh q6) rfl rfl (Nat.le_of_ble_eq_true rfl) D_Cb_shift_0.1.2.1.1 rfl (fun f5 => ?_)
      refine z_if_ne (tgt := 16) (pc' := 14) I (b01.R f5) D_Cb_shift_0.1.2.1.2 rfl rfl (fun c8 => ?_) (fun c8 => ?_)
      · refine z_s I (s_aload_n (pc' := 17) 0 rfl D_Cb_shift_0.2.1.1.1 rfl rfl) ?_
        refine z_getR (pc' := 20) (eI := o + 93) I g_Cb_37 ao rfl (by omega) D_Cb_shift_0.2.1.1.2 rfl ?_
        have k9 : ok τ (3, 2) (o + 93) := r_Cb_tapes hw ao (by omega)
        refine z_s I (s_iload_n (pc' := 21) 1 rfl D_Cb_shift_0.2.1.2.1 rfl rfl) ?_
        refine z_aald (pc' := 22) (eI := o + 2 * x1 + 114) I 6 21 2 k9 ax1 rfl rfl rfl (by omega) D_Cb_shift_0.2.1.2.2 rfl (fun c10 => ?_)
        have k11 : ok τ (4, 7) (o + 2 * x1 + 114) := e_2 hw k9 c10 (by omega)
        refine z_bR k11 (fun v12 e13 f14 => ?_)
        refine z_s I (s_astore (pc' := 24) (lv' := [(6, vR ad v12), (0, vR ad o), (1, vI x1), (2, vI x2), (3, vI x3), (4, vI x4), (5, vI x5)]) D_Cb_shift_0.2.2.1.1 (by decide) rfl rfl) ?_
        refine z_s I (s_aload_n (pc' := 25) 1 rfl D_Cb_shift_0.2.2.1.2 rfl rfl) ?_
        refine z_getR (pc' := 28) (eI := o + 93) I g_Cb_37 ao rfl (by omega) D_Cb_shift_0.2.2.2.1 rfl ?_
        have k15 : ok τ (3, 2) (o + 93) := r_Cb_tapes hw ao (by omega)
        refine z_s I (s_iload_n (pc' := 29) 4 rfl D_Cb_shift_0.2.2.2.2 rfl rfl) ?_
        refine z_aald (pc' := 30) (eI := o + 2 * x3 + 114) I 6 21 2 k15 ax3 rfl rfl rfl (by omega) D_Cb_shift_1.1.1.1.1 rfl (fun c16 => ?_)
        have k17 : ok τ (4, 7) (o + 2 * x3 + 114) := e_2 hw k15 c16 (by omega)
        refine z_bR k17 (fun v18 e19 f20 => ?_)
        refine z_s I (s_astore (pc' := 32) (lv' := [(7, vR ad v18), (6, vR ad v12), (0, vR ad o), (1, vI x1), (2, vI x2), (3, vI x3), (4, vI x4), (5, vI x5)]) D_Cb_shift_1.1.1.1.2 (by decide) rfl rfl) ?_
        refine z_s I (s_aload (pc' := 34) 1 rfl D_Cb_shift_1.1.1.2.1 rfl) ?_
        refine z_b1 (fun r23 q22 => ?_)
        refine z_callV (pc' := 37) I mv_Tape_holdsNothing ml_Cb_339 (fun ad => []) ⟨Nat.le_of_ble_eq_true rfl, Nat.le_of_ble_eq_true rfl⟩ f14 (fun hh => c_Tape_holdsNothing hw f14 hh q22) rfl rfl (Nat.le_of_ble_eq_true rfl) D_Cb_shift_1.1.1.2.2 rfl (fun f21 => ?_)
        refine z_if_ne (tgt := 48) (pc' := 40) I (b01.R f21) D_Cb_shift_1.1.2.1.1 rfl rfl (fun c24 => ?_) (fun c24 => ?_)
        · refine z_s I (s_bipush (pc' := 50) D_Cb_shift_1.2.1.1.1 rfl rfl) ?_
          exact z_ret (w := some (vI (-11))) I (fun g => gk0 _ _ g (inR_c (x := (-11)) rfl)) ⟨_, rfl⟩ D_Cb_shift_1.2.1.1.2 rfl
        · refine z_s I (s_aload (pc' := 42) 0 rfl D_Cb_shift_1.1.2.1.2 rfl) ?_
          refine z_b1 (fun r27 q26 => ?_)
          refine z_callV (pc' := 45) I mv_Tape_holdsNothing ml_Cb_339 (fun ad => []) ⟨Nat.le_of_ble_eq_true rfl, Nat.le_of_ble_eq_true rfl⟩ f20 (fun hh => c_Tape_holdsNothing hw f20 hh q26) rfl rfl (Nat.le_of_ble_eq_true rfl) D_Cb_shift_1.1.2.2.1 rfl (fun f25 => ?_)
          refine z_if_eq (tgt := 51) (pc' := 48) I (b01.R f25) D_Cb_shift_1.1.2.2.2 rfl rfl (fun c28 => ?_) (fun c28 => ?_)
          · refine z_s I (s_aload (pc' := 53) 1 rfl D_Cb_shift_1.2.1.2.1 rfl) ?_
            refine z_getI (pc' := 56) (jI := 0) I g_Cb_342 f14 rfl rfl D_Cb_shift_1.2.1.2.2 rfl (fun f29 => ?_)
            refine z_s I (s_aload (pc' := 58) 0 rfl D_Cb_shift_1.2.2.1.1 rfl) ?_
            refine z_getI (pc' := 61) (jI := 0) I g_Cb_342 f20 rfl rfl D_Cb_shift_1.2.2.1.2 rfl (fun f30 => ?_)
            refine z_icmp_eq (tgt := 67) (pc' := 64) I f29 f30 D_Cb_shift_1.2.2.2.1 rfl rfl (fun c31 => ?_) (fun c31 => ?_)
            · refine z_s I (s_aload (pc' := 69) 1 rfl D_Cb_shift_2.1.1.1.2 rfl) ?_
              refine z_s I (s_iload_n (pc' := 70) 4 rfl D_Cb_shift_2.1.1.2.1 rfl rfl) ?_
              refine z_s I (s_iload (pc' := 72) 7 rfl D_Cb_shift_2.1.1.2.2 rfl) ?_
              refine z_b1 (fun r34 q33 => ?_)
              refine z_callV (pc' := 75) I mv_Tape_hasStretch ml_Cb_366 (fun ad => [vI x2, vI x5]) ⟨Nat.le_of_ble_eq_true rfl, Nat.le_of_ble_eq_true rfl⟩ f14 (fun hh => c_Tape_hasStretch hw f14 ax2 ax5 hh q33) rfl rfl (Nat.le_of_ble_eq_true rfl) D_Cb_shift_2.1.2.1.1 rfl (fun f32 => ?_)
              refine z_if_eq (tgt := 90) (pc' := 78) I (b01.R f32) D_Cb_shift_2.1.2.1.2 rfl rfl (fun c35 => ?_) (fun c35 => ?_)
              · refine z_s I (s_bipush (pc' := 92) D_Cb_shift_2.2.1.2.2 rfl rfl) ?_
                exact z_ret (w := some (vI (-13))) I (fun g => gk0 _ _ g (inR_c (x := (-13)) rfl)) ⟨_, rfl⟩ D_Cb_shift_2.2.2.1.1 rfl
              · refine z_s I (s_aload (pc' := 80) 0 rfl D_Cb_shift_2.1.2.2.1 rfl) ?_
                refine z_s I (s_iload (pc' := 82) 6 rfl D_Cb_shift_2.1.2.2.2 rfl) ?_
                refine z_s I (s_iload (pc' := 84) 7 rfl D_Cb_shift_2.2.1.1.1 rfl) ?_
                refine z_b1 (fun r38 q37 => ?_)
                refine z_callV (pc' := 87) I mv_Tape_hasStretch ml_Cb_366 (fun ad => [vI x4, vI x5]) ⟨Nat.le_of_ble_eq_true rfl, Nat.le_of_ble_eq_true rfl⟩ f20 (fun hh => c_Tape_hasStretch hw f20 ax4 ax5 hh q37) rfl rfl (Nat.le_of_ble_eq_true rfl) D_Cb_shift_2.2.1.1.2 rfl (fun f36 => ?_)
                refine z_if_ne (tgt := 93) (pc' := 90) I (b01.R f36) D_Cb_shift_2.2.1.2.1 rfl rfl (fun c39 => ?_) (fun c39 => ?_)
                · refine z_s I (s_aload (pc' := 95) 1 rfl D_Cb_shift_2.2.2.1.2 rfl) ?_
                  refine z_getR (pc' := 98) (eI := v12 + 1) I g_Cb_348 f14 rfl (by omega) D_Cb_shift_2.2.2.2.1 rfl ?_
                  have k40 : ok τ (1, 60) (v12 + 1) := r_Tape_row hw f14 (by omega)
                  refine z_s I (s_iload_n (pc' := 99) 4 rfl D_Cb_shift_2.2.2.2.2 rfl rfl) ?_
                  refine z_s I (s_aload (pc' := 101) 0 rfl D_Cb_shift_3.1.1 rfl) ?_
                  refine z_getR (pc' := 104) (eI := v18 + 1) I g_Cb_348 f20 rfl (by omega) D_Cb_shift_3.1.2.1 rfl ?_
                  have k41 : ok τ (1, 60) (v18 + 1) := r_Tape_row hw f20 (by omega)
                  refine z_s I (s_iload (pc' := 106) 6 rfl D_Cb_shift_3.1.2.2 rfl) ?_
                  refine z_s I (s_iload (pc' := 108) 7 rfl D_Cb_shift_3.2.1.1 rfl) ?_
                  refine z_lcpy (pc' := 111) I k40 k41 rfl rfl ax2 ax4 ax5 ml_Cb_369 (Nat.le_of_ble_eq_true rfl) (Nat.le_of_ble_eq_true rfl) D_Cb_shift_3.2.1.2 rfl ?_
                  refine z_bH (fun h42 e43 => ?_)
                  refine z_s I (s_iload (pc' := 113) 7 rfl D_Cb_shift_3.2.2.1 rfl) ?_
                  exact z_ret (w := some (vI x5)) I (fun g => gk0 _ _ g ax5) ⟨_, rfl⟩ D_Cb_shift_3.2.2.2 rfl
                · refine z_s I (s_bipush (pc' := 92) D_Cb_shift_2.2.1.2.2 rfl rfl) ?_
                  exact z_ret (w := some (vI (-13))) I (fun g => gk0 _ _ g (inR_c (x := (-13)) rfl)) ⟨_, rfl⟩ D_Cb_shift_2.2.2.1.1 rfl
            · refine z_s I (s_bipush (pc' := 66) D_Cb_shift_1.2.2.2.2 rfl rfl) ?_
              exact z_ret (w := some (vI (-12))) I (fun g => gk0 _ _ g (inR_c (x := (-12)) rfl)) ⟨_, rfl⟩ D_Cb_shift_2.1.1.1.1 rfl
          · refine z_s I (s_bipush (pc' := 50) D_Cb_shift_1.2.1.1.1 rfl rfl) ?_
            exact z_ret (w := some (vI (-11))) I (fun g => gk0 _ _ g (inR_c (x := (-11)) rfl)) ⟨_, rfl⟩ D_Cb_shift_1.2.1.1.2 rfl
      · refine z_s I (s_iconst (pc' := 15) D_Cb_shift_0.1.2.2.1 rfl) ?_
        exact z_ret (w := some (vI (-1))) I (fun g => gk0 _ _ g (inR_c (x := (-1)) rfl)) ⟨_, rfl⟩ D_Cb_shift_0.1.2.2.2 rfl
  exact main _ hF (by rw [hG0])
set_option maxHeartbeats 4000000 in
set_option maxRecDepth 20000 in
theorem c_Md_in {l : Launch} {τ : TP} {l0 : Int} {l2 : Int} {l4 : Int} {h : HP} {r : Int} (hw : wf τ) (al0 : inL l0) (al2 : inL l2) (al4 : inL l4) (hh : hr τ h) (hF : m_Md_in l0 l2 l4 h = some r) : Ctr l y_Md_in k_Md_in 6 (Option.some FieldType.boolean) 0 0 τ (fun ad => [vL l0, vL l2, vL l4]) h (some (vI r)) h (b01 r) := by
  refine ctr_of (by decide) hw hh (fun ad => Nat.le_of_ble_eq_true rfl) (fun ad K Y I hK => ?_)
  obtain ⟨G0, hG0⟩ : ∃ G : Int → Prop, G = fun x => x = r := ⟨_, rfl⟩
  have gk0 : ∀ (x : Int), G0 x → b01 x → K (some (vI x)) h := fun x g q => by
    rw [hG0] at g
    cases g
    exact hK q
  have main : Z Y (m_Md_in l0 l2 l4 h) G0 h 0 [(0, vL l0), (2, vL l2), (4, vL l4)] [] := by
    unfold m_Md_in
    refine z_s I (s_lload_n (pc' := 1) 0 rfl D_Md_in_0.1.1.1 rfl rfl) ?_
    refine z_s I (s_lload_n (pc' := 2) 1 rfl D_Md_in_0.1.1.2.1 rfl rfl) ?_
    refine z_s I (s_lcmp (pc' := 3) al0 al2 D_Md_in_0.1.1.2.2 rfl) ?_
    refine z_if_lt (tgt := 17) (pc' := 6) I (inR_lCmp _ _) D_Md_in_0.1.2.1 rfl rfl (fun c1 => ?_) (fun c1 => ?_)
    · refine z_s I (s_iconst (pc' := 18) D_Md_in_0.2.2.2.1 rfl) ?_
      exact z_ret (w := some (vI 0)) I (fun g => gk0 _ g bz0) ⟨_, bz0, rfl⟩ D_Md_in_0.2.2.2.2 rfl
    · refine z_s I (s_lload_n (pc' := 7) 0 rfl D_Md_in_0.1.2.2.1 rfl rfl) ?_
      refine z_s I (s_lload (pc' := 9) 2 rfl D_Md_in_0.1.2.2.2 rfl) ?_
      refine z_s I (s_lcmp (pc' := 10) al0 al4 D_Md_in_0.2.1.1 rfl) ?_
      refine z_if_gt (tgt := 17) (pc' := 13) I (inR_lCmp _ _) D_Md_in_0.2.1.2.1 rfl rfl (fun c2 => ?_) (fun c2 => ?_)
      · refine z_s I (s_iconst (pc' := 18) D_Md_in_0.2.2.2.1 rfl) ?_
        exact z_ret (w := some (vI 0)) I (fun g => gk0 _ g bz0) ⟨_, bz0, rfl⟩ D_Md_in_0.2.2.2.2 rfl
      · refine z_s I (s_iconst (pc' := 14) D_Md_in_0.2.1.2.2 rfl) ?_
        refine z_s I (s_goto (tgt := 18) D_Md_in_0.2.2.1 rfl) ?_
        exact z_ret (w := some (vI 1)) I (fun g => gk0 _ g bz1) ⟨_, bz1, rfl⟩ D_Md_in_0.2.2.2.2 rfl
  exact main _ hF (by rw [hG0])
set_option maxHeartbeats 4000000 in
set_option maxRecDepth 20000 in
theorem c_Md_isItem {l : Launch} {τ : TP} {o : Int} {x1 : Int} {h : HP} {r : Int} (hw : wf τ) (ao : ok τ (4, 10) o) (ax1 : inR x1) (hh : hr τ h) (hF : m_Md_isItem o x1 h = some r) : Ctr l y_Md_isItem k_Md_isItem 2 (Option.some FieldType.boolean) 1 25 τ (fun ad => [vR ad o, vI x1]) h (some (vI r)) h (b01 r) := by
  refine ctr_of (by decide) hw hh (fun ad => Nat.le_of_ble_eq_true rfl) (fun ad K Y I hK => ?_)
  obtain ⟨G0, hG0⟩ : ∃ G : Int → Prop, G = fun x => x = r := ⟨_, rfl⟩
  have gk0 : ∀ (x : Int), G0 x → b01 x → K (some (vI x)) h := fun x g q => by
    rw [hG0] at g
    cases g
    exact hK q
  have main : Z Y (m_Md_isItem o x1 h) G0 h 0 [(0, vR ad o), (1, vI x1)] [] := by
    unfold m_Md_isItem
    refine z_s I (s_iload_n (pc' := 1) 1 rfl D_Md_isItem_0.1.1.1 rfl rfl) ?_
    refine z_s I (s_i2l (pc' := 2) ax1 D_Md_isItem_0.1.1.2 rfl) ?_
    refine z_s I (s_lconst (pc' := 3) (x := 0) D_Md_isItem_0.1.2.1 rfl rfl) ?_
    refine z_s I (s_aload_n (pc' := 4) 0 rfl D_Md_isItem_0.1.2.2.1 rfl rfl) ?_
    refine z_getI (pc' := 7) (jI := 0) I g_Md_9 ao rfl rfl D_Md_isItem_0.1.2.2.2 rfl (fun f1 => ?_)
    refine z_s I (s_iconst (pc' := 8) D_Md_isItem_0.2.1.1 rfl) ?_
    refine z_s I (s_isub (pc' := 9) D_Md_isItem_0.2.1.2 rfl) ?_
    refine z_s I (s_i2l (pc' := 10) (inR_w32 _) D_Md_isItem_0.2.2.1 rfl) ?_
    refine z_b1 (fun r4 q3 => ?_)
    refine z_callS (pc' := 13) I mv_Md_in ml_Md_119 (fun ad => [vL x1, vL 0, vL (w32 ((h o 0) - 1))]) ⟨Nat.le_of_ble_eq_true rfl, Nat.le_of_ble_eq_true rfl⟩ (fun hh => c_Md_in hw (ax1).L (inL_c (x := 0) rfl) ((inR_w32 _)).L hh q3) rfl rfl (Nat.le_of_ble_eq_true rfl) D_Md_isItem_0.2.2.2.1 rfl (fun f2 => ?_)
    exact z_ret (w := some (vI r4)) I (fun g => gk0 _ g f2) ⟨_, f2, rfl⟩ D_Md_isItem_0.2.2.2.2 rfl
  exact main _ hF (by rw [hG0])
set_option maxHeartbeats 4000000 in
set_option maxRecDepth 20000 in
theorem c_Md_isOne {l : Launch} {τ : TP} {o : Int} {x1 : Int} {h : HP} {r : Int} (hw : wf τ) (ao : ok τ (4, 10) o) (ax1 : inR x1) (hh : hr τ h) (hF : m_Md_isOne o x1 h = some r) : Ctr l y_Md_isOne k_Md_isOne 2 (Option.some FieldType.boolean) 1 25 τ (fun ad => [vR ad o, vI x1]) h (some (vI r)) h (b01 r) := by
  refine ctr_of (by decide) hw hh (fun ad => Nat.le_of_ble_eq_true rfl) (fun ad K Y I hK => ?_)
  obtain ⟨G0, hG0⟩ : ∃ G : Int → Prop, G = fun x => x = r := ⟨_, rfl⟩
  have gk0 : ∀ (x : Int), G0 x → b01 x → K (some (vI x)) h := fun x g q => by
    rw [hG0] at g
    cases g
    exact hK q
  have main : Z Y (m_Md_isOne o x1 h) G0 h 0 [(0, vR ad o), (1, vI x1)] [] := by
    unfold m_Md_isOne
    refine z_s I (s_iload_n (pc' := 1) 1 rfl D_Md_isOne_0.1.1.1 rfl rfl) ?_
    refine z_s I (s_i2l (pc' := 2) ax1 D_Md_isOne_0.1.1.2 rfl) ?_
    refine z_s I (s_lconst (pc' := 3) (x := 0) D_Md_isOne_0.1.2.1 rfl rfl) ?_
    refine z_s I (s_aload_n (pc' := 4) 0 rfl D_Md_isOne_0.1.2.2.1 rfl rfl) ?_
    refine z_getI (pc' := 7) (jI := 1) I g_Md_123 ao rfl rfl D_Md_isOne_0.1.2.2.2 rfl (fun f1 => ?_)
    refine z_s I (s_iconst (pc' := 8) D_Md_isOne_0.2.1.1 rfl) ?_
    refine z_s I (s_isub (pc' := 9) D_Md_isOne_0.2.1.2 rfl) ?_
    refine z_s I (s_i2l (pc' := 10) (inR_w32 _) D_Md_isOne_0.2.2.1 rfl) ?_
    refine z_b1 (fun r4 q3 => ?_)
    refine z_callS (pc' := 13) I mv_Md_in ml_Md_119 (fun ad => [vL x1, vL 0, vL (w32 ((h o 1) - 1))]) ⟨Nat.le_of_ble_eq_true rfl, Nat.le_of_ble_eq_true rfl⟩ (fun hh => c_Md_in hw (ax1).L (inL_c (x := 0) rfl) ((inR_w32 _)).L hh q3) rfl rfl (Nat.le_of_ble_eq_true rfl) D_Md_isOne_0.2.2.2.1 rfl (fun f2 => ?_)
    exact z_ret (w := some (vI r4)) I (fun g => gk0 _ g f2) ⟨_, f2, rfl⟩ D_Md_isOne_0.2.2.2.2 rfl
  exact main _ hF (by rw [hG0])
set_option maxHeartbeats 4000000 in
set_option maxRecDepth 20000 in
theorem c_Md_isTwo {l : Launch} {τ : TP} {o : Int} {x1 : Int} {x2 : Int} {h : HP} {r : Int} (hw : wf τ) (ao : ok τ (4, 10) o) (ax1 : inR x1) (ax2 : inR x2) (hh : hr τ h) (hF : m_Md_isTwo o x1 x2 h = some r) : Ctr l y_Md_isTwo k_Md_isTwo 3 (Option.some FieldType.boolean) 2 46 τ (fun ad => [vR ad o, vI x1, vI x2]) h (some (vI r)) h (b01 r) := by
  refine ctr_of (by decide) hw hh (fun ad => Nat.le_of_ble_eq_true rfl) (fun ad K Y I hK => ?_)
  obtain ⟨G0, hG0⟩ : ∃ G : Int → Prop, G = fun x => x = r := ⟨_, rfl⟩
  have gk0 : ∀ (x : Int), G0 x → b01 x → K (some (vI x)) h := fun x g q => by
    rw [hG0] at g
    cases g
    exact hK q
  have main : Z Y (m_Md_isTwo o x1 x2 h) G0 h 0 [(0, vR ad o), (1, vI x1), (2, vI x2)] [] := by
    unfold m_Md_isTwo
    refine z_s I (s_aload_n (pc' := 1) 0 rfl D_Md_isTwo_0.1.1.1 rfl rfl) ?_
    refine z_s I (s_iload_n (pc' := 2) 1 rfl D_Md_isTwo_0.1.1.2.1 rfl rfl) ?_
    refine z_b1 (fun r3 q2 => ?_)
    refine z_callV (pc' := 5) I mv_Md_isOne ml_Md_126 (fun ad => [vI x1]) ⟨Nat.le_of_ble_eq_true rfl, Nat.le_of_ble_eq_true rfl⟩ ao (fun hh => c_Md_isOne hw ao ax1 hh q2) rfl rfl (Nat.le_of_ble_eq_true rfl) D_Md_isTwo_0.1.1.2.2 rfl (fun f1 => ?_)
    refine z_if_eq (tgt := 25) (pc' := 8) I (b01.R f1) D_Md_isTwo_0.1.2.1.1 rfl rfl (fun c4 => ?_) (fun c4 => ?_)
    · refine z_s I (s_iconst (pc' := 26) D_Md_isTwo_0.2.2.2.1 rfl) ?_
      exact z_ret (w := some (vI 0)) I (fun g => gk0 _ g bz0) ⟨_, bz0, rfl⟩ D_Md_isTwo_0.2.2.2.2 rfl
    · refine z_s I (s_aload_n (pc' := 9) 0 rfl D_Md_isTwo_0.1.2.1.2 rfl rfl) ?_
      refine z_s I (s_iload_n (pc' := 10) 2 rfl D_Md_isTwo_0.1.2.2.1 rfl rfl) ?_
      refine z_b1 (fun r7 q6 => ?_)
      refine z_callV (pc' := 13) I mv_Md_isOne ml_Md_126 (fun ad => [vI x2]) ⟨Nat.le_of_ble_eq_true rfl, Nat.le_of_ble_eq_true rfl⟩ ao (fun hh => c_Md_isOne hw ao ax2 hh q6) rfl rfl (Nat.le_of_ble_eq_true rfl) D_Md_isTwo_0.1.2.2.2 rfl (fun f5 => ?_)
      refine z_if_eq (tgt := 25) (pc' := 16) I (b01.R f5) D_Md_isTwo_0.2.1.1.1 rfl rfl (fun c8 => ?_) (fun c8 => ?_)
      · refine z_s I (s_iconst (pc' := 26) D_Md_isTwo_0.2.2.2.1 rfl) ?_
        exact z_ret (w := some (vI 0)) I (fun g => gk0 _ g bz0) ⟨_, bz0, rfl⟩ D_Md_isTwo_0.2.2.2.2 rfl
      · refine z_s I (s_iload_n (pc' := 17) 1 rfl D_Md_isTwo_0.2.1.1.2 rfl rfl) ?_
        refine z_s I (s_iload_n (pc' := 18) 2 rfl D_Md_isTwo_0.2.1.2.1 rfl rfl) ?_
        refine z_icmp_eq (tgt := 25) (pc' := 21) I ax1 ax2 D_Md_isTwo_0.2.1.2.2 rfl rfl (fun c9 => ?_) (fun c9 => ?_)
        · refine z_s I (s_iconst (pc' := 26) D_Md_isTwo_0.2.2.2.1 rfl) ?_
          exact z_ret (w := some (vI 0)) I (fun g => gk0 _ g bz0) ⟨_, bz0, rfl⟩ D_Md_isTwo_0.2.2.2.2 rfl
        · refine z_s I (s_iconst (pc' := 22) D_Md_isTwo_0.2.2.1.1 rfl) ?_
          refine z_s I (s_goto (tgt := 26) D_Md_isTwo_0.2.2.1.2 rfl) ?_
          exact z_ret (w := some (vI 1)) I (fun g => gk0 _ g bz1) ⟨_, bz1, rfl⟩ D_Md_isTwo_0.2.2.2.2 rfl
  exact main _ hF (by rw [hG0])
set_option maxHeartbeats 4000000 in
set_option maxRecDepth 20000 in
theorem c_Md_begins {l : Launch} {τ : TP} {o : Int} {h : HP} {h' : HP} (hw : wf τ) (ao : ok τ (4, 10) o) (hh : hr τ h) (hF : m_Md_begins o h = some h') : Ctr l y_Md_begins k_Md_begins 2 (Option.none : Option FieldType) 0 0 τ (fun ad => [vR ad o]) h none h' (True) := by
  refine ctr_of (by decide) hw hh (fun ad => Nat.le_of_ble_eq_true rfl) (fun ad K Y I hK => ?_)
  obtain ⟨G0, hG0⟩ : ∃ G : HP → Prop, G = fun x => x = h' := ⟨_, rfl⟩
  have gk0 : ∀ (x : HP), G0 x → K none x := fun x g => by
    rw [hG0] at g
    cases g
    exact hK trivial
  have L45 : ∀ (s : Int × HP), (inR (s.1)) → Z Y (m_Md_begins_L45 o s) G0 (s.2) 45 [(0, vR ad o), (1, vI (s.1))] [] := by
    intro s hs
    refine z_loop (G := G0) (hO := fun s : Int × HP => s.2) (lO := fun s : Int × HP => [(0, vR ad o), (1, vI (s.1))]) (Φ := fun s : Int × HP => inR (s.1)) (fun G1 hin1_1 hout1 s hs => ?_) FUEL s hs
    obtain ⟨x1, h⟩ := s
    have ax1 := hs
    have gk1 := fun (x : HP) (g : G1 (.inr (x))) => gk0 x (hout1 _ g)
    show Z Y (m_Md_begins_L45b o x1 h) G1 h 45 [(0, vR ad o), (1, vI x1)] []
    unfold m_Md_begins_L45b
    refine z_s I (s_iload_n (pc' := 46) 1 rfl D_Md_begins_1.2.2.1.1 rfl rfl) ?_
    refine z_s I (s_bipush (pc' := 48) D_Md_begins_1.2.2.1.2 rfl rfl) ?_
    refine z_icmp_ge (tgt := 64) (pc' := 51) I ax1 (inR_c (x := 32) rfl) D_Md_begins_1.2.2.2.1 rfl rfl (fun c1 => ?_) (fun c1 => ?_)
    · exact z_ret (w := none) I (fun g => gk1 _ g) rfl D_Md_begins_2.2.2.2 rfl
    · refine z_s I (s_aload_n (pc' := 52) 0 rfl D_Md_begins_1.2.2.2.2 rfl rfl) ?_
      refine z_getR (pc' := 55) (eI := o + 3) I g_Md_22 ao rfl (by omega) D_Md_begins_2.1.1 rfl ?_
      have k2 : ok τ (0, 32) (o + 3) := r_Md_parts hw ao (by omega)
      refine z_s I (s_iload_n (pc' := 56) 1 rfl D_Md_begins_2.1.2.1 rfl rfl) ?_
      refine z_s I (s_iconst (pc' := 57) D_Md_begins_2.1.2.2 rfl) ?_
      refine z_iast (pc' := 58) (nI := 32) I k2 ax1 (b01.R bz1) rfl D_Md_begins_2.2.1.1 rfl (fun c3 => ?_)
      refine z_bH (fun h4 e5 => ?_)
      refine z_s I (s_iinc (pc' := 61) (lv' := [(1, vI (w32 (x1 + 1))), (0, vR ad o)]) (n := 1) rfl D_Md_begins_2.2.1.2 (by decide) rfl rfl) ?_
      refine z_s I (s_goto (tgt := 45) D_Md_begins_2.2.2.1 rfl) ?_
      refine z_s I (s_lv (lv' := [(0, vR ad o), (1, vI (w32 (x1 + 1)))]) [1, 0] rfl) ?_
      exact z_end (fun g => hin1_1 _ g (inR_w32 _))
  have L17 : ∀ (s : Int × HP), (inR (s.1)) → Z Y (m_Md_begins_L17 o s) G0 (s.2) 17 [(0, vR ad o), (1, vI (s.1))] [] := by
    intro s hs
    refine z_loop (G := G0) (hO := fun s : Int × HP => s.2) (lO := fun s : Int × HP => [(0, vR ad o), (1, vI (s.1))]) (Φ := fun s : Int × HP => inR (s.1)) (fun G1 hin1_1 hout1 s hs => ?_) FUEL s hs
    obtain ⟨x1, h⟩ := s
    have ax1 := hs
    have gk1 := fun (x : HP) (g : G1 (.inr (x))) => gk0 x (hout1 _ g)
    show Z Y (m_Md_begins_L17b o x1 h) G1 h 17 [(0, vR ad o), (1, vI x1)] []
    unfold m_Md_begins_L17b
    refine z_s I (s_iload_n (pc' := 18) 1 rfl D_Md_begins_0.2.1.2.2 rfl rfl) ?_
    refine z_s I (s_bipush (pc' := 20) D_Md_begins_0.2.2.1.1 rfl rfl) ?_
    refine z_icmp_ge (tgt := 43) (pc' := 23) I ax1 (inR_c (x := 8) rfl) D_Md_begins_0.2.2.1.2 rfl rfl (fun c6 => ?_) (fun c6 => ?_)
    · refine z_s I (s_iconst (pc' := 44) D_Md_begins_1.2.1.2.1 rfl) ?_
      refine z_s I (s_istore_n (pc' := 45) (lv' := [(1, vI 0), (0, vR ad o)]) D_Md_begins_1.2.1.2.2 rfl (by decide) rfl rfl) ?_
      refine z_map _ (fun x g => hout1 x g) ?_
      refine z_s I (s_lv (lv' := [(0, vR ad o), (1, vI 0)]) [1, 0] rfl) ?_
      exact L45 _ (b01.R bz0)
    · refine z_s I (s_aload_n (pc' := 24) 0 rfl D_Md_begins_0.2.2.2.1 rfl rfl) ?_
      refine z_getR (pc' := 27) (eI := o + 1) I g_Md_15 ao rfl (by omega) D_Md_begins_0.2.2.2.2 rfl ?_
      have k7 : ok τ (0, 8) (o + 1) := r_Md_right hw ao (by omega)
      refine z_s I (s_iload_n (pc' := 28) 1 rfl D_Md_begins_1.1.1.1.1 rfl rfl) ?_
      refine z_s I (s_iconst (pc' := 29) D_Md_begins_1.1.1.1.2 rfl) ?_
      refine z_iast (pc' := 30) (nI := 8) I k7 ax1 (b01.R bz0) rfl D_Md_begins_1.1.1.2.1 rfl (fun c8 => ?_)
      refine z_bH (fun h9 e10 => ?_)
      refine z_s I (s_aload_n (pc' := 31) 0 rfl D_Md_begins_1.1.1.2.2 rfl rfl) ?_
      refine z_getR (pc' := 34) (eI := o + 2) I g_Md_19 ao rfl (by omega) D_Md_begins_1.1.2.1.1 rfl ?_
      have k11 : ok τ (0, 8) (o + 2) := r_Md_kind hw ao (by omega)
      refine z_s I (s_iload_n (pc' := 35) 1 rfl D_Md_begins_1.1.2.1.2 rfl rfl) ?_
      refine z_s I (s_iconst (pc' := 36) D_Md_begins_1.1.2.2.1 rfl) ?_
      refine z_iast (pc' := 37) (nI := 8) I k11 ax1 (b01.R bz0) rfl D_Md_begins_1.1.2.2.2 rfl (fun c12 => ?_)
      refine z_bH (fun h13 e14 => ?_)
      refine z_s I (s_iinc (pc' := 40) (lv' := [(1, vI (w32 (x1 + 1))), (0, vR ad o)]) (n := 1) rfl D_Md_begins_1.2.1.1.1 (by decide) rfl rfl) ?_
      refine z_s I (s_goto (tgt := 17) D_Md_begins_1.2.1.1.2 rfl) ?_
      refine z_s I (s_lv (lv' := [(0, vR ad o), (1, vI (w32 (x1 + 1)))]) [1, 0] rfl) ?_
      exact z_end (fun g => hin1_1 _ g (inR_w32 _))
  have main : Z Y (m_Md_begins o h) G0 h 0 [(0, vR ad o)] [] := by
    unfold m_Md_begins
    refine z_s I (s_aload_n (pc' := 1) 0 rfl D_Md_begins_0.1.1.1.1 rfl rfl) ?_
    refine z_s I (s_iconst (pc' := 2) D_Md_begins_0.1.1.1.2 rfl) ?_
    refine z_putI (pc' := 5) (jI := 1) I p_Md_123 ao rfl rfl (b01.R bz0) D_Md_begins_0.1.1.2.1 rfl ?_
    refine z_bH (fun h15 e16 => ?_)
    refine z_s I (s_aload_n (pc' := 6) 0 rfl D_Md_begins_0.1.1.2.2 rfl rfl) ?_
    refine z_s I (s_iconst (pc' := 7) D_Md_begins_0.1.2.1.1 rfl) ?_
    refine z_putI (pc' := 10) (jI := 15) I p_Md_130 ao rfl rfl (b01.R bz0) D_Md_begins_0.1.2.1.2 rfl ?_
    refine z_bH (fun h17 e18 => ?_)
    refine z_s I (s_aload_n (pc' := 11) 0 rfl D_Md_begins_0.1.2.2.1 rfl rfl) ?_
    refine z_s I (s_iconst (pc' := 12) D_Md_begins_0.1.2.2.2 rfl) ?_
    refine z_putI (pc' := 15) (jI := 16) I p_Md_133 ao rfl rfl (b01.R bz0) D_Md_begins_0.2.1.1.1 rfl ?_
    refine z_bH (fun h19 e20 => ?_)
    refine z_s I (s_iconst (pc' := 16) D_Md_begins_0.2.1.1.2 rfl) ?_
    refine z_s I (s_istore_n (pc' := 17) (lv' := [(1, vI 0), (0, vR ad o)]) D_Md_begins_0.2.1.2.1 rfl (by decide) rfl rfl) ?_
    refine z_s I (s_lv (lv' := [(0, vR ad o), (1, vI 0)]) [1, 0] rfl) ?_
    exact L17 _ (b01.R bz0)
  exact main _ hF (by rw [hG0])
set_option maxHeartbeats 4000000 in
set_option maxRecDepth 20000 in
theorem c_Md_passes {l : Launch} {τ : TP} {o : Int} {x1 : Int} {h : HP} {r : Int} {h' : HP} (hw : wf τ) (ao : ok τ (4, 10) o) (ax1 : inR x1) (hh : hr τ h) (hF : m_Md_passes o x1 h = some (r, h')) : Ctr l y_Md_passes k_Md_passes 3 (Option.some FieldType.int) 0 0 τ (fun ad => [vR ad o, vI x1]) h (some (vI r)) h' (inR r) := by
  refine ctr_of (by decide) hw hh (fun ad => Nat.le_of_ble_eq_true rfl) (fun ad K Y I hK => ?_)
  obtain ⟨G0, hG0⟩ : ∃ G : Int × HP → Prop, G = fun x => x = (r, h') := ⟨_, rfl⟩
  have gk0 : ∀ (x : Int) (y : HP), G0 (x, y) → inR x → K (some (vI x)) y := fun x y g q => by
    rw [hG0] at g
    cases g
    exact hK q
  have J20 : ∀ (s0 : Int) (as0 : inR s0) (h : HP), Z Y (m_Md_passes_J20 o s0 h) G0 h 20 [(0, vR ad o)] [vI s0] := by
    intro s0 as0 h
    unfold m_Md_passes_J20
    refine z_s I (s_istore_n (pc' := 21) (lv' := [(2, vI s0), (0, vR ad o)]) D_Md_passes_0.2.1.2.1 rfl (by decide) rfl rfl) ?_
    refine z_s I (s_aload_n (pc' := 22) 1 rfl D_Md_passes_0.2.1.2.2 rfl rfl) ?_
    refine z_getR (pc' := 25) (eI := o + 15) I g_Md_58 ao rfl (by omega) D_Md_passes_0.2.2.1.1 rfl ?_
    have k1 : ok τ (0, 200) (o + 15) := r_Md_imaged hw ao (by omega)
    refine z_s I (s_aload_n (pc' := 26) 1 rfl D_Md_passes_0.2.2.1.2 rfl rfl) ?_
    refine z_getI (pc' := 29) (jI := 21) I g_Md_140 ao rfl rfl D_Md_passes_0.2.2.2.1 rfl (fun f2 => ?_)
    refine z_s I (s_iload_n (pc' := 30) 0 rfl D_Md_passes_0.2.2.2.2 rfl rfl) ?_
    refine z_iast (pc' := 31) (nI := 200) I k1 f2 as0 rfl D_Md_passes_1.1.1.1 rfl (fun c3 => ?_)
    refine z_bH (fun h4 e5 => ?_)
    refine z_s I (s_aload_n (pc' := 32) 1 rfl D_Md_passes_1.1.1.2 rfl rfl) ?_
    refine z_s I (s_dup (pc' := 33) rfl D_Md_passes_1.1.2.1 rfl) ?_
    refine z_getI (pc' := 36) (jI := 21) I g_Md_140 ao rfl rfl D_Md_passes_1.1.2.2 rfl (fun f6 => ?_)
    refine z_s I (s_iconst (pc' := 37) D_Md_passes_1.2.1.1 rfl) ?_
    refine z_s I (s_iadd (pc' := 38) D_Md_passes_1.2.1.2 rfl) ?_
    refine z_putI (pc' := 41) (jI := 21) I p_Md_140 ao rfl rfl (inR_w32 _) D_Md_passes_1.2.2.1 rfl ?_
    refine z_bH (fun h7 e8 => ?_)
    refine z_s I (s_iload_n (pc' := 42) 0 rfl D_Md_passes_1.2.2.2.1 rfl rfl) ?_
    exact z_ret (w := some (vI s0)) I (fun g => gk0 _ _ g as0) ⟨_, rfl⟩ D_Md_passes_1.2.2.2.2 rfl
  have main : Z Y (m_Md_passes o x1 h) G0 h 0 [(0, vR ad o), (1, vI x1)] [] := by
    unfold m_Md_passes
    refine z_s I (s_aload_n (pc' := 1) 0 rfl D_Md_passes_0.1.1.1.1 rfl rfl) ?_
    refine z_getB (pc' := 4) (jI := 22) I g_Md_136 ao rfl rfl D_Md_passes_0.1.1.1.2 rfl (fun f9 => ?_)
    refine z_if_eq (tgt := 11) (pc' := 7) I (b01.R f9) D_Md_passes_0.1.1.2.1 rfl rfl (fun c10 => ?_) (fun c10 => ?_)
    · refine z_s I (s_aload_n (pc' := 12) 0 rfl D_Md_passes_0.1.2.1.2 rfl rfl) ?_
      refine z_getR (pc' := 15) (eI := o + 15) I g_Md_58 ao rfl (by omega) D_Md_passes_0.1.2.2.1 rfl ?_
      have k11 : ok τ (0, 200) (o + 15) := r_Md_imaged hw ao (by omega)
      refine z_s I (s_aload_n (pc' := 16) 0 rfl D_Md_passes_0.1.2.2.2 rfl rfl) ?_
      refine z_getI (pc' := 19) (jI := 21) I g_Md_140 ao rfl rfl D_Md_passes_0.2.1.1.1 rfl (fun f12 => ?_)
      refine z_iald (pc' := 20) (nI := 200) I k11 f12 rfl D_Md_passes_0.2.1.1.2 rfl (fun c13 f14 => ?_)
      refine z_s I (s_lv (lv' := [(0, vR ad o)]) [0] rfl) ?_
      exact J20 _ f14 _
    · refine z_s I (s_iload_n (pc' := 8) 1 rfl D_Md_passes_0.1.1.2.2 rfl rfl) ?_
      refine z_s I (s_goto (tgt := 20) D_Md_passes_0.1.2.1.1 rfl) ?_
      refine z_s I (s_lv (lv' := [(0, vR ad o)]) [0] rfl) ?_
      exact J20 _ ax1 _
  exact main _ hF (by rw [hG0])
set_option maxHeartbeats 4000000 in
set_option maxRecDepth 20000 in
theorem c_Md_passesRow {l : Launch} {τ : TP} {o : Int} {r1 : Int} {n1 : Nat} {m1 : Int} {h : HP} {h' : HP} (hw : wf τ) (ao : ok τ (4, 10) o) (ar1 : ok τ (0, n1) r1) (hn1 : (n1 : Int) = m1) (gn1 : inR m1) (hh : hr τ h) (hF : m_Md_passesRow o r1 m1 h = some h') : Ctr l y_Md_passesRow k_Md_passesRow 3 (Option.none : Option FieldType) 1 22 τ (fun ad => [vR ad o, vR ad r1]) h none h' (True) := by
  refine ctr_of (by decide) hw hh (fun ad => Nat.le_of_ble_eq_true rfl) (fun ad K Y I hK => ?_)
  obtain ⟨G0, hG0⟩ : ∃ G : HP → Prop, G = fun x => x = h' := ⟨_, rfl⟩
  have gk0 : ∀ (x : HP), G0 x → K none x := fun x g => by
    rw [hG0] at g
    cases g
    exact hK trivial
  have L2 : ∀ (s : Int × HP), (inR (s.1)) → Z Y (m_Md_passesRow_L2 o r1 m1 s) G0 (s.2) 2 [(0, vR ad o), (1, vR ad r1), (2, vI (s.1))] [] := by
    intro s hs
    refine z_loop (G := G0) (hO := fun s : Int × HP => s.2) (lO := fun s : Int × HP => [(0, vR ad o), (1, vR ad r1), (2, vI (s.1))]) (Φ := fun s : Int × HP => inR (s.1)) (fun G1 hin1_1 hout1 s hs => ?_) FUEL s hs
    obtain ⟨x2, h⟩ := s
    have ax2 := hs
    have gk1 := fun (x : HP) (g : G1 (.inr (x))) => gk0 x (hout1 _ g)
    show Z Y (m_Md_passesRow_L2b o r1 m1 x2 h) G1 h 2 [(0, vR ad o), (1, vR ad r1), (2, vI x2)] []
    unfold m_Md_passesRow_L2b
    refine z_s I (s_iload_n (pc' := 3) 2 rfl D_Md_passesRow_0.1.1.2.1 rfl rfl) ?_
    refine z_s I (s_aload_n (pc' := 4) 1 rfl D_Md_passesRow_0.1.1.2.2 rfl rfl) ?_
    refine z_alen (pc' := 5) (nI := m1) I ar1 hn1 D_Md_passesRow_0.1.2.1.1 rfl ?_
    refine z_icmp_ge (tgt := 24) (pc' := 8) I ax2 gn1 D_Md_passesRow_0.1.2.1.2 rfl rfl (fun c1 => ?_) (fun c1 => ?_)
    · exact z_ret (w := none) I (fun g => gk1 _ g) rfl D_Md_passesRow_1 rfl
    · refine z_s I (s_aload_n (pc' := 9) 1 rfl D_Md_passesRow_0.1.2.2.1 rfl rfl) ?_
      refine z_s I (s_iload_n (pc' := 10) 2 rfl D_Md_passesRow_0.1.2.2.2 rfl rfl) ?_
      refine z_s I (s_aload_n (pc' := 11) 0 rfl D_Md_passesRow_0.2.1.1.1 rfl rfl) ?_
      refine z_s I (s_aload_n (pc' := 12) 1 rfl D_Md_passesRow_0.2.1.1.2 rfl rfl) ?_
      refine z_s I (s_iload_n (pc' := 13) 2 rfl D_Md_passesRow_0.2.1.2.1 rfl rfl) ?_
      refine z_iald (pc' := 14) (nI := m1) I ar1 ax2 hn1 D_Md_passesRow_0.2.1.2.2 rfl (fun c2 f3 => ?_)
      refine z_b2 (fun r6 h7 q5 => ?_)
      refine z_callV (pc' := 17) I mv_Md_passes ml_Md_143 (fun ad => [vI (h r1 x2)]) ⟨Nat.le_of_ble_eq_true rfl, Nat.le_of_ble_eq_true rfl⟩ ao (fun hh => c_Md_passes hw ao f3 hh q5) rfl rfl (Nat.le_of_ble_eq_true rfl) D_Md_passesRow_0.2.2.1.1 rfl (fun f4 => ?_)
      refine z_iast (pc' := 18) (nI := m1) I ar1 ax2 f4 hn1 D_Md_passesRow_0.2.2.1.2 rfl (fun c8 => ?_)
      refine z_bH (fun h9 e10 => ?_)
      refine z_s I (s_iinc (pc' := 21) (lv' := [(2, vI (w32 (x2 + 1))), (0, vR ad o), (1, vR ad r1)]) (n := 2) rfl D_Md_passesRow_0.2.2.2.1 (by decide) rfl rfl) ?_
      refine z_s I (s_goto (tgt := 2) D_Md_passesRow_0.2.2.2.2 rfl) ?_
      refine z_s I (s_lv (lv' := [(0, vR ad o), (1, vR ad r1), (2, vI (w32 (x2 + 1)))]) [1, 2, 0] rfl) ?_
      exact z_end (fun g => hin1_1 _ g (inR_w32 _))
  have main : Z Y (m_Md_passesRow o r1 m1 h) G0 h 0 [(0, vR ad o), (1, vR ad r1)] [] := by
    unfold m_Md_passesRow
    refine z_s I (s_iconst (pc' := 1) D_Md_passesRow_0.1.1.1.1 rfl) ?_
    refine z_s I (s_istore_n (pc' := 2) (lv' := [(2, vI 0), (0, vR ad o), (1, vR ad r1)]) D_Md_passesRow_0.1.1.1.2 rfl (by decide) rfl rfl) ?_
    refine z_s I (s_lv (lv' := [(0, vR ad o), (1, vR ad r1), (2, vI 0)]) [1, 2, 0] rfl) ?_
    exact L2 _ (b01.R bz0)
  exact main _ hF (by rw [hG0])
set_option maxHeartbeats 4000000 in
set_option maxRecDepth 20000 in
theorem c_Md_passesAll {l : Launch} {τ : TP} {o : Int} {x1 : Int} {h : HP} {r : Int} {h' : HP} (hw : wf τ) (ao : ok τ (4, 10) o) (ax1 : b01 x1) (hh : hr τ h) (hF : m_Md_passesAll o x1 h = some (r, h')) : Ctr l y_Md_passesAll k_Md_passesAll 2 (Option.some FieldType.int) 2 44 τ (fun ad => [vR ad o, vI x1]) h (some (vI r)) h' (inR r) := by
  refine ctr_of (by decide) hw hh (fun ad => Nat.le_of_ble_eq_true rfl) (fun ad K Y I hK => ?_)
  obtain ⟨G0, hG0⟩ : ∃ G : Int × HP → Prop, G = fun x => x = (r, h') := ⟨_, rfl⟩
  have gk0 : ∀ (x : Int) (y : HP), G0 (x, y) → inR x → K (some (vI x)) y := fun x y g q => by
    rw [hG0] at g
    cases g
    exact hK q
  have main : Z Y (m_Md_passesAll o x1 h) G0 h 0 [(0, vR ad o), (1, vI x1)] [] := by
    unfold m_Md_passesAll
    refine z_s I (s_aload_n (pc' := 1) 0 rfl D_Md_passesAll_0.1.1.1.1 rfl rfl) ?_
    refine z_s I (s_iload_n (pc' := 2) 1 rfl D_Md_passesAll_0.1.1.1.2 rfl rfl) ?_
    refine z_putB (pc' := 5) (jI := 22) I p_Md_136 ao rfl rfl ax1 D_Md_passesAll_0.1.1.2.1 rfl ?_
    refine z_bH (fun h1 e2 => ?_)
    refine z_s I (s_aload_n (pc' := 6) 0 rfl D_Md_passesAll_0.1.1.2.2 rfl rfl) ?_
    refine z_s I (s_iconst (pc' := 7) D_Md_passesAll_0.1.2.1.1 rfl) ?_
    refine z_putI (pc' := 10) (jI := 21) I p_Md_140 ao rfl rfl (b01.R bz0) D_Md_passesAll_0.1.2.1.2 rfl ?_
    refine z_bH (fun h3 e4 => ?_)
    refine z_s I (s_aload_n (pc' := 11) 0 rfl D_Md_passesAll_0.1.2.2.1 rfl rfl) ?_
    refine z_s I (s_aload_n (pc' := 12) 0 rfl D_Md_passesAll_0.1.2.2.2 rfl rfl) ?_
    refine z_s I (s_aload_n (pc' := 13) 0 rfl D_Md_passesAll_0.2.1.1.1 rfl rfl) ?_
    refine z_getI (pc' := 16) (jI := 0) I g_Md_9 ao rfl rfl D_Md_passesAll_0.2.1.1.2 rfl (fun f5 => ?_)
    refine z_b2 (fun r8 h9 q7 => ?_)
    refine z_callV (pc' := 19) I mv_Md_passes ml_Md_143 (fun ad => [vI (h3 o 0)]) ⟨Nat.le_of_ble_eq_true rfl, Nat.le_of_ble_eq_true rfl⟩ ao (fun hh => c_Md_passes hw ao f5 hh q7) rfl rfl (Nat.le_of_ble_eq_true rfl) D_Md_passesAll_0.2.1.2.1 rfl (fun f6 => ?_)
    refine z_putI (pc' := 22) (jI := 0) I p_Md_9 ao rfl rfl f6 D_Md_passesAll_0.2.1.2.2 rfl ?_
    refine z_bH (fun h10 e11 => ?_)
    refine z_s I (s_aload_n (pc' := 23) 0 rfl D_Md_passesAll_0.2.2.1.1 rfl rfl) ?_
    refine z_s I (s_aload_n (pc' := 24) 0 rfl D_Md_passesAll_0.2.2.1.2 rfl rfl) ?_
    refine z_s I (s_aload_n (pc' := 25) 0 rfl D_Md_passesAll_0.2.2.2.1 rfl rfl) ?_
    refine z_getI (pc' := 28) (jI := 1) I g_Md_123 ao rfl rfl D_Md_passesAll_0.2.2.2.2 rfl (fun f12 => ?_)
    refine z_b2 (fun r15 h16 q14 => ?_)
    refine z_callV (pc' := 31) I mv_Md_passes ml_Md_143 (fun ad => [vI (h10 o 1)]) ⟨Nat.le_of_ble_eq_true rfl, Nat.le_of_ble_eq_true rfl⟩ ao (fun hh => c_Md_passes hw ao f12 hh q14) rfl rfl (Nat.le_of_ble_eq_true rfl) D_Md_passesAll_1.1.1.1.1 rfl (fun f13 => ?_)
    refine z_putI (pc' := 34) (jI := 1) I p_Md_123 ao rfl rfl f13 D_Md_passesAll_1.1.1.1.2 rfl ?_
    refine z_bH (fun h17 e18 => ?_)
    refine z_s I (s_aload_n (pc' := 35) 0 rfl D_Md_passesAll_1.1.1.2.1 rfl rfl) ?_
    refine z_s I (s_aload_n (pc' := 36) 0 rfl D_Md_passesAll_1.1.1.2.2 rfl rfl) ?_
    refine z_s I (s_aload_n (pc' := 37) 0 rfl D_Md_passesAll_1.1.2.1.1 rfl rfl) ?_
    refine z_getI (pc' := 40) (jI := 15) I g_Md_130 ao rfl rfl D_Md_passesAll_1.1.2.1.2 rfl (fun f19 => ?_)
    refine z_b2 (fun r22 h23 q21 => ?_)
    refine z_callV (pc' := 43) I mv_Md_passes ml_Md_143 (fun ad => [vI (h17 o 15)]) ⟨Nat.le_of_ble_eq_true rfl, Nat.le_of_ble_eq_true rfl⟩ ao (fun hh => c_Md_passes hw ao f19 hh q21) rfl rfl (Nat.le_of_ble_eq_true rfl) D_Md_passesAll_1.1.2.2.1 rfl (fun f20 => ?_)
    refine z_putI (pc' := 46) (jI := 15) I p_Md_130 ao rfl rfl f20 D_Md_passesAll_1.1.2.2.2 rfl ?_
    refine z_bH (fun h24 e25 => ?_)
    refine z_s I (s_aload_n (pc' := 47) 0 rfl D_Md_passesAll_1.2.1.1.1 rfl rfl) ?_
    refine z_s I (s_aload_n (pc' := 48) 0 rfl D_Md_passesAll_1.2.1.1.2 rfl rfl) ?_
    refine z_s I (s_aload_n (pc' := 49) 0 rfl D_Md_passesAll_1.2.1.2.1 rfl rfl) ?_
    refine z_getI (pc' := 52) (jI := 16) I g_Md_133 ao rfl rfl D_Md_passesAll_1.2.1.2.2 rfl (fun f26 => ?_)
    refine z_b2 (fun r29 h30 q28 => ?_)
    refine z_callV (pc' := 55) I mv_Md_passes ml_Md_143 (fun ad => [vI (h24 o 16)]) ⟨Nat.le_of_ble_eq_true rfl, Nat.le_of_ble_eq_true rfl⟩ ao (fun hh => c_Md_passes hw ao f26 hh q28) rfl rfl (Nat.le_of_ble_eq_true rfl) D_Md_passesAll_1.2.2.1.1 rfl (fun f27 => ?_)
    refine z_putI (pc' := 58) (jI := 16) I p_Md_133 ao rfl rfl f27 D_Md_passesAll_1.2.2.1.2 rfl ?_
    refine z_bH (fun h31 e32 => ?_)
    refine z_s I (s_aload_n (pc' := 59) 0 rfl D_Md_passesAll_1.2.2.2.1 rfl rfl) ?_
    refine z_s I (s_aload_n (pc' := 60) 0 rfl D_Md_passesAll_1.2.2.2.2 rfl rfl) ?_
    refine z_getR (pc' := 63) (eI := o + 1) I g_Md_15 ao rfl (by omega) D_Md_passesAll_2.1.1.1.1 rfl ?_
    have k33 : ok τ (0, 8) (o + 1) := r_Md_right hw ao (by omega)
    refine z_b1 (fun h36 q35 => ?_)
    refine z_callV (pc' := 66) I mv_Md_passesRow ml_Md_147 (fun ad => [vR ad (o + 1)]) ⟨Nat.le_of_ble_eq_true rfl, Nat.le_of_ble_eq_true rfl⟩ ao (fun hh => c_Md_passesRow hw ao k33 rfl (inR_c (x := 8) rfl) hh q35) rfl rfl (Nat.le_of_ble_eq_true rfl) D_Md_passesAll_2.1.1.1.2 rfl (fun f34 => ?_)
    refine z_s I (s_aload_n (pc' := 67) 0 rfl D_Md_passesAll_2.1.1.2.1 rfl rfl) ?_
    refine z_s I (s_aload_n (pc' := 68) 0 rfl D_Md_passesAll_2.1.1.2.2 rfl rfl) ?_
    refine z_getR (pc' := 71) (eI := o + 2) I g_Md_19 ao rfl (by omega) D_Md_passesAll_2.1.2.1.1 rfl ?_
    have k37 : ok τ (0, 8) (o + 2) := r_Md_kind hw ao (by omega)
    refine z_b1 (fun h40 q39 => ?_)
    refine z_callV (pc' := 74) I mv_Md_passesRow ml_Md_147 (fun ad => [vR ad (o + 2)]) ⟨Nat.le_of_ble_eq_true rfl, Nat.le_of_ble_eq_true rfl⟩ ao (fun hh => c_Md_passesRow hw ao k37 rfl (inR_c (x := 8) rfl) hh q39) rfl rfl (Nat.le_of_ble_eq_true rfl) D_Md_passesAll_2.1.2.1.2 rfl (fun f38 => ?_)
    refine z_s I (s_aload_n (pc' := 75) 0 rfl D_Md_passesAll_2.1.2.2.1 rfl rfl) ?_
    refine z_s I (s_aload_n (pc' := 76) 0 rfl D_Md_passesAll_2.1.2.2.2 rfl rfl) ?_
    refine z_getR (pc' := 79) (eI := o + 3) I g_Md_22 ao rfl (by omega) D_Md_passesAll_2.2.1.1.1 rfl ?_
    have k41 : ok τ (0, 32) (o + 3) := r_Md_parts hw ao (by omega)
    refine z_b1 (fun h44 q43 => ?_)
    refine z_callV (pc' := 82) I mv_Md_passesRow ml_Md_147 (fun ad => [vR ad (o + 3)]) ⟨Nat.le_of_ble_eq_true rfl, Nat.le_of_ble_eq_true rfl⟩ ao (fun hh => c_Md_passesRow hw ao k41 rfl (inR_c (x := 32) rfl) hh q43) rfl rfl (Nat.le_of_ble_eq_true rfl) D_Md_passesAll_2.2.1.1.2 rfl (fun f42 => ?_)
    refine z_s I (s_aload_n (pc' := 83) 0 rfl D_Md_passesAll_2.2.1.2.1 rfl rfl) ?_
    refine z_s I (s_aload_n (pc' := 84) 0 rfl D_Md_passesAll_2.2.1.2.2 rfl rfl) ?_
    refine z_getR (pc' := 87) (eI := o + 4) I g_Md_25 ao rfl (by omega) D_Md_passesAll_2.2.2.1.1 rfl ?_
    have k45 : ok τ (0, 64) (o + 4) := r_Md_given hw ao (by omega)
    refine z_b1 (fun h48 q47 => ?_)
    refine z_callV (pc' := 90) I mv_Md_passesRow ml_Md_147 (fun ad => [vR ad (o + 4)]) ⟨Nat.le_of_ble_eq_true rfl, Nat.le_of_ble_eq_true rfl⟩ ao (fun hh => c_Md_passesRow hw ao k45 rfl (inR_c (x := 64) rfl) hh q47) rfl rfl (Nat.le_of_ble_eq_true rfl) D_Md_passesAll_2.2.2.1.2 rfl (fun f46 => ?_)
    refine z_s I (s_aload_n (pc' := 91) 0 rfl D_Md_passesAll_2.2.2.2.1 rfl rfl) ?_
    refine z_s I (s_aload_n (pc' := 92) 0 rfl D_Md_passesAll_2.2.2.2.2 rfl rfl) ?_
    refine z_getR (pc' := 95) (eI := o + 5) I g_Md_28 ao rfl (by omega) D_Md_passesAll_3.1.1.1.1 rfl ?_
    have k49 : ok τ (0, 8) (o + 5) := r_Md_row hw ao (by omega)
    refine z_b1 (fun h52 q51 => ?_)
    refine z_callV (pc' := 98) I mv_Md_passesRow ml_Md_147 (fun ad => [vR ad (o + 5)]) ⟨Nat.le_of_ble_eq_true rfl, Nat.le_of_ble_eq_true rfl⟩ ao (fun hh => c_Md_passesRow hw ao k49 rfl (inR_c (x := 8) rfl) hh q51) rfl rfl (Nat.le_of_ble_eq_true rfl) D_Md_passesAll_3.1.1.1.2 rfl (fun f50 => ?_)
    refine z_s I (s_aload_n (pc' := 99) 0 rfl D_Md_passesAll_3.1.1.2.1 rfl rfl) ?_
    refine z_s I (s_aload_n (pc' := 100) 0 rfl D_Md_passesAll_3.1.1.2.2 rfl rfl) ?_
    refine z_getR (pc' := 103) (eI := o + 6) I g_Md_31 ao rfl (by omega) D_Md_passesAll_3.1.2.1.1 rfl ?_
    have k53 : ok τ (0, 8) (o + 6) := r_Md_place hw ao (by omega)
    refine z_b1 (fun h56 q55 => ?_)
    refine z_callV (pc' := 106) I mv_Md_passesRow ml_Md_147 (fun ad => [vR ad (o + 6)]) ⟨Nat.le_of_ble_eq_true rfl, Nat.le_of_ble_eq_true rfl⟩ ao (fun hh => c_Md_passesRow hw ao k53 rfl (inR_c (x := 8) rfl) hh q55) rfl rfl (Nat.le_of_ble_eq_true rfl) D_Md_passesAll_3.1.2.1.2 rfl (fun f54 => ?_)
    refine z_s I (s_aload_n (pc' := 107) 0 rfl D_Md_passesAll_3.1.2.2.1 rfl rfl) ?_
    refine z_s I (s_aload_n (pc' := 108) 0 rfl D_Md_passesAll_3.1.2.2.2 rfl rfl) ?_
    refine z_getR (pc' := 111) (eI := o + 7) I g_Md_34 ao rfl (by omega) D_Md_passesAll_3.2.1.1.1 rfl ?_
    have k57 : ok τ (0, 6) (o + 7) := r_Md_used hw ao (by omega)
    refine z_b1 (fun h60 q59 => ?_)
    refine z_callV (pc' := 114) I mv_Md_passesRow ml_Md_147 (fun ad => [vR ad (o + 7)]) ⟨Nat.le_of_ble_eq_true rfl, Nat.le_of_ble_eq_true rfl⟩ ao (fun hh => c_Md_passesRow hw ao k57 rfl (inR_c (x := 6) rfl) hh q59) rfl rfl (Nat.le_of_ble_eq_true rfl) D_Md_passesAll_3.2.1.1.2 rfl (fun f58 => ?_)
    refine z_s I (s_aload_n (pc' := 115) 0 rfl D_Md_passesAll_3.2.1.2.1 rfl rfl) ?_
    refine z_s I (s_aload_n (pc' := 116) 0 rfl D_Md_passesAll_3.2.1.2.2 rfl rfl) ?_
    refine z_getR (pc' := 119) (eI := o + 8) I g_Md_37 ao rfl (by omega) D_Md_passesAll_3.2.2.1.1 rfl ?_
    have k61 : ok τ (0, 5) (o + 8) := r_Md_seenX hw ao (by omega)
    refine z_b1 (fun h64 q63 => ?_)
    refine z_callV (pc' := 122) I mv_Md_passesRow ml_Md_147 (fun ad => [vR ad (o + 8)]) ⟨Nat.le_of_ble_eq_true rfl, Nat.le_of_ble_eq_true rfl⟩ ao (fun hh => c_Md_passesRow hw ao k61 rfl (inR_c (x := 5) rfl) hh q63) rfl rfl (Nat.le_of_ble_eq_true rfl) D_Md_passesAll_3.2.2.1.2 rfl (fun f62 => ?_)
    refine z_s I (s_aload_n (pc' := 123) 0 rfl D_Md_passesAll_3.2.2.2.1 rfl rfl) ?_
    refine z_s I (s_aload_n (pc' := 124) 0 rfl D_Md_passesAll_3.2.2.2.2 rfl rfl) ?_
    refine z_getR (pc' := 127) (eI := o + 9) I g_Md_40 ao rfl (by omega) D_Md_passesAll_4.1.1.1.1 rfl ?_
    have k65 : ok τ (0, 5) (o + 9) := r_Md_seenY hw ao (by omega)
    refine z_b1 (fun h68 q67 => ?_)
    refine z_callV (pc' := 130) I mv_Md_passesRow ml_Md_147 (fun ad => [vR ad (o + 9)]) ⟨Nat.le_of_ble_eq_true rfl, Nat.le_of_ble_eq_true rfl⟩ ao (fun hh => c_Md_passesRow hw ao k65 rfl (inR_c (x := 5) rfl) hh q67) rfl rfl (Nat.le_of_ble_eq_true rfl) D_Md_passesAll_4.1.1.1.2 rfl (fun f66 => ?_)
    refine z_s I (s_aload_n (pc' := 131) 0 rfl D_Md_passesAll_4.1.1.2.1 rfl rfl) ?_
    refine z_s I (s_aload_n (pc' := 132) 0 rfl D_Md_passesAll_4.1.1.2.2 rfl rfl) ?_
    refine z_getR (pc' := 135) (eI := o + 10) I g_Md_43 ao rfl (by omega) D_Md_passesAll_4.1.2.1.1 rfl ?_
    have k69 : ok τ (0, 5) (o + 10) := r_Md_seenIs hw ao (by omega)
    refine z_b1 (fun h72 q71 => ?_)
    refine z_callV (pc' := 138) I mv_Md_passesRow ml_Md_147 (fun ad => [vR ad (o + 10)]) ⟨Nat.le_of_ble_eq_true rfl, Nat.le_of_ble_eq_true rfl⟩ ao (fun hh => c_Md_passesRow hw ao k69 rfl (inR_c (x := 5) rfl) hh q71) rfl rfl (Nat.le_of_ble_eq_true rfl) D_Md_passesAll_4.1.2.1.2 rfl (fun f70 => ?_)
    refine z_s I (s_aload_n (pc' := 139) 0 rfl D_Md_passesAll_4.1.2.2.1 rfl rfl) ?_
    refine z_s I (s_aload_n (pc' := 140) 0 rfl D_Md_passesAll_4.1.2.2.2 rfl rfl) ?_
    refine z_getR (pc' := 143) (eI := o + 11) I g_Md_46 ao rfl (by omega) D_Md_passesAll_4.2.1.1.1 rfl ?_
    have k73 : ok τ (0, 8) (o + 11) := r_Md_planWhat hw ao (by omega)
    refine z_b1 (fun h76 q75 => ?_)
    refine z_callV (pc' := 146) I mv_Md_passesRow ml_Md_147 (fun ad => [vR ad (o + 11)]) ⟨Nat.le_of_ble_eq_true rfl, Nat.le_of_ble_eq_true rfl⟩ ao (fun hh => c_Md_passesRow hw ao k73 rfl (inR_c (x := 8) rfl) hh q75) rfl rfl (Nat.le_of_ble_eq_true rfl) D_Md_passesAll_4.2.1.1.2 rfl (fun f74 => ?_)
    refine z_s I (s_aload_n (pc' := 147) 0 rfl D_Md_passesAll_4.2.1.2.1 rfl rfl) ?_
    refine z_s I (s_aload_n (pc' := 148) 0 rfl D_Md_passesAll_4.2.1.2.2 rfl rfl) ?_
    refine z_getR (pc' := 151) (eI := o + 12) I g_Md_49 ao rfl (by omega) D_Md_passesAll_4.2.2.1.1 rfl ?_
    have k77 : ok τ (0, 8) (o + 12) := r_Md_planK hw ao (by omega)
    refine z_b1 (fun h80 q79 => ?_)
    refine z_callV (pc' := 154) I mv_Md_passesRow ml_Md_147 (fun ad => [vR ad (o + 12)]) ⟨Nat.le_of_ble_eq_true rfl, Nat.le_of_ble_eq_true rfl⟩ ao (fun hh => c_Md_passesRow hw ao k77 rfl (inR_c (x := 8) rfl) hh q79) rfl rfl (Nat.le_of_ble_eq_true rfl) D_Md_passesAll_4.2.2.1.2 rfl (fun f78 => ?_)
    refine z_s I (s_aload_n (pc' := 155) 0 rfl D_Md_passesAll_4.2.2.2.1 rfl rfl) ?_
    refine z_s I (s_aload_n (pc' := 156) 0 rfl D_Md_passesAll_4.2.2.2.2 rfl rfl) ?_
    refine z_getR (pc' := 159) (eI := o + 13) I g_Md_52 ao rfl (by omega) D_Md_passesAll_5.1.1 rfl ?_
    have k81 : ok τ (0, 8) (o + 13) := r_Md_planV hw ao (by omega)
    refine z_b1 (fun h84 q83 => ?_)
    refine z_callV (pc' := 162) I mv_Md_passesRow ml_Md_147 (fun ad => [vR ad (o + 13)]) ⟨Nat.le_of_ble_eq_true rfl, Nat.le_of_ble_eq_true rfl⟩ ao (fun hh => c_Md_passesRow hw ao k81 rfl (inR_c (x := 8) rfl) hh q83) rfl rfl (Nat.le_of_ble_eq_true rfl) D_Md_passesAll_5.1.2 rfl (fun f82 => ?_)
    refine z_s I (s_aload_n (pc' := 163) 0 rfl D_Md_passesAll_5.2.1 rfl rfl) ?_
    refine z_getI (pc' := 166) (jI := 1) I g_Md_123 ao rfl rfl D_Md_passesAll_5.2.2.1 rfl (fun f85 => ?_)
    exact z_ret (w := some (vI (h84 o 1))) I (fun g => gk0 _ _ g f85) ⟨_, rfl⟩ D_Md_passesAll_5.2.2.2 rfl
  exact main _ hF (by rw [hG0])
set_option maxHeartbeats 4000000 in
set_option maxRecDepth 20000 in
theorem c_Md_image {l : Launch} {τ : TP} {o : Int} {h : HP} {r : Int} {h' : HP} (hw : wf τ) (ao : ok τ (4, 10) o) (hh : hr τ h) (hF : m_Md_image o h = some (r, h')) : Ctr l y_Md_image k_Md_image 1 (Option.some FieldType.int) 3 65 τ (fun ad => [vR ad o]) h (some (vI r)) h' (inR r) := by
  refine ctr_of (by decide) hw hh (fun ad => Nat.le_of_ble_eq_true rfl) (fun ad K Y I hK => ?_)
  obtain ⟨G0, hG0⟩ : ∃ G : Int × HP → Prop, G = fun x => x = (r, h') := ⟨_, rfl⟩
  have gk0 : ∀ (x : Int) (y : HP), G0 (x, y) → inR x → K (some (vI x)) y := fun x y g q => by
    rw [hG0] at g
    cases g
    exact hK q
  have main : Z Y (m_Md_image o h) G0 h 0 [(0, vR ad o)] [] := by
    unfold m_Md_image
    refine z_s I (s_aload_n (pc' := 1) 0 rfl D_Md_image_0.1.1 rfl rfl) ?_
    refine z_s I (s_iconst (pc' := 2) D_Md_image_0.1.2.1 rfl) ?_
    refine z_putB (pc' := 5) (jI := 20) I p_Md_151 ao rfl rfl bz1 D_Md_image_0.1.2.2 rfl ?_
    refine z_bH (fun h1 e2 => ?_)
    refine z_s I (s_aload_n (pc' := 6) 0 rfl D_Md_image_0.2.1.1 rfl rfl) ?_
    refine z_s I (s_iconst (pc' := 7) D_Md_image_0.2.1.2 rfl) ?_
    refine z_b2 (fun r5 h6 q4 => ?_)
    refine z_callV (pc' := 10) I mv_Md_passesAll ml_Md_154 (fun ad => [vI 1]) ⟨Nat.le_of_ble_eq_true rfl, Nat.le_of_ble_eq_true rfl⟩ ao (fun hh => c_Md_passesAll hw ao bz1 hh q4) rfl rfl (Nat.le_of_ble_eq_true rfl) D_Md_image_0.2.2.1 rfl (fun f3 => ?_)
    exact z_ret (w := some (vI r5)) I (fun g => gk0 _ _ g f3) ⟨_, rfl⟩ D_Md_image_0.2.2.2 rfl
  exact main _ hF (by rw [hG0])
set_option maxHeartbeats 4000000 in
set_option maxRecDepth 20000 in
theorem c_Md_undo {l : Launch} {τ : TP} {o : Int} {h : HP} {r : Int} {h' : HP} (hw : wf τ) (ao : ok τ (4, 10) o) (hh : hr τ h) (hF : m_Md_undo o h = some (r, h')) : Ctr l y_Md_undo k_Md_undo 1 (Option.some FieldType.int) 3 65 τ (fun ad => [vR ad o]) h (some (vI r)) h' (inR r) := by
  refine ctr_of (by decide) hw hh (fun ad => Nat.le_of_ble_eq_true rfl) (fun ad K Y I hK => ?_)
  obtain ⟨G0, hG0⟩ : ∃ G : Int × HP → Prop, G = fun x => x = (r, h') := ⟨_, rfl⟩
  have gk0 : ∀ (x : Int) (y : HP), G0 (x, y) → inR x → K (some (vI x)) y := fun x y g q => by
    rw [hG0] at g
    cases g
    exact hK q
  have main : Z Y (m_Md_undo o h) G0 h 0 [(0, vR ad o)] [] := by
    unfold m_Md_undo
    refine z_s I (s_aload_n (pc' := 1) 0 rfl D_Md_undo_0.1.1.1 rfl rfl) ?_
    refine z_getB (pc' := 4) (jI := 20) I g_Md_151 ao rfl rfl D_Md_undo_0.1.1.2 rfl (fun f1 => ?_)
    refine z_if_eq (tgt := 15) (pc' := 7) I (b01.R f1) D_Md_undo_0.1.2.1 rfl rfl (fun c2 => ?_) (fun c2 => ?_)
    · refine z_s I (s_bipush (pc' := 17) D_Md_undo_0.2.2.2.1 rfl rfl) ?_
      exact z_ret (w := some (vI (-3))) I (fun g => gk0 _ _ g (inR_c (x := (-3)) rfl)) ⟨_, rfl⟩ D_Md_undo_0.2.2.2.2 rfl
    · refine z_s I (s_aload_n (pc' := 8) 0 rfl D_Md_undo_0.1.2.2 rfl rfl) ?_
      refine z_s I (s_iconst (pc' := 9) D_Md_undo_0.2.1.1 rfl) ?_
      refine z_b2 (fun r5 h6 q4 => ?_)
      refine z_callV (pc' := 12) I mv_Md_passesAll ml_Md_154 (fun ad => [vI 0]) ⟨Nat.le_of_ble_eq_true rfl, Nat.le_of_ble_eq_true rfl⟩ ao (fun hh => c_Md_passesAll hw ao bz0 hh q4) rfl rfl (Nat.le_of_ble_eq_true rfl) D_Md_undo_0.2.1.2 rfl (fun f3 => ?_)
      refine z_s I (s_goto (tgt := 17) D_Md_undo_0.2.2.1 rfl) ?_
      exact z_ret (w := some (vI r5)) I (fun g => gk0 _ _ g f3) ⟨_, rfl⟩ D_Md_undo_0.2.2.2.2 rfl
  exact main _ hF (by rw [hG0])
set_option maxHeartbeats 4000000 in
set_option maxRecDepth 20000 in
theorem c_Md_items {l : Launch} {τ : TP} {o : Int} {x1 : Int} {h : HP} {r : Int} {h' : HP} (hw : wf τ) (ao : ok τ (4, 10) o) (ax1 : inR x1) (hh : hr τ h) (hF : m_Md_items o x1 h = some (r, h')) : Ctr l y_Md_items k_Md_items 3 (Option.some FieldType.int) 1 25 τ (fun ad => [vR ad o, vI x1]) h (some (vI r)) h' (inR r) := by
  refine ctr_of (by decide) hw hh (fun ad => Nat.le_of_ble_eq_true rfl) (fun ad K Y I hK => ?_)
  obtain ⟨G0, hG0⟩ : ∃ G : Int × HP → Prop, G = fun x => x = (r, h') := ⟨_, rfl⟩
  have gk0 : ∀ (x : Int) (y : HP), G0 (x, y) → inR x → K (some (vI x)) y := fun x y g q => by
    rw [hG0] at g
    cases g
    exact hK q
  have main : Z Y (m_Md_items o x1 h) G0 h 0 [(0, vR ad o), (1, vI x1)] [] := by
    unfold m_Md_items
    refine z_s I (s_iload_n (pc' := 1) 1 rfl D_Md_items_0.1.1.1.1 rfl rfl) ?_
    refine z_s I (s_i2l (pc' := 2) ax1 D_Md_items_0.1.1.1.2 rfl) ?_
    refine z_s I (s_lconst (pc' := 3) (x := 1) D_Md_items_0.1.1.2.1 rfl rfl) ?_
    refine z_ldc2 (pc' := 6) (x := 8) I cl_Md_158 (by decide +kernel) D_Md_items_0.1.1.2.2 rfl ?_
    refine z_b1 (fun r3 q2 => ?_)
    refine z_callS (pc' := 9) I mv_Md_in ml_Md_119 (fun ad => [vL x1, vL 1, vL 8]) ⟨Nat.le_of_ble_eq_true rfl, Nat.le_of_ble_eq_true rfl⟩ (fun hh => c_Md_in hw (ax1).L (inL_c (x := 1) rfl) (inL_c (x := 8) rfl) hh q2) rfl rfl (Nat.le_of_ble_eq_true rfl) D_Md_items_0.1.2.1.1 rfl (fun f1 => ?_)
    refine z_if_ne (tgt := 15) (pc' := 12) I (b01.R f1) D_Md_items_0.1.2.1.2 rfl rfl (fun c4 => ?_) (fun c4 => ?_)
    · refine z_s I (s_aload_n (pc' := 16) 0 rfl D_Md_items_0.2.1.1.1 rfl rfl) ?_
      refine z_getI (pc' := 19) (jI := 0) I g_Md_9 ao rfl rfl D_Md_items_0.2.1.1.2 rfl (fun f5 => ?_)
      refine z_bI f5 (fun v6 e7 f8 => ?_)
      refine z_s I (s_istore_n (pc' := 20) (lv' := [(2, vI v6), (0, vR ad o), (1, vI x1)]) D_Md_items_0.2.1.2.1 rfl (by decide) rfl rfl) ?_
      refine z_s I (s_aload_n (pc' := 21) 1 rfl D_Md_items_0.2.1.2.2 rfl rfl) ?_
      refine z_s I (s_iload_n (pc' := 22) 2 rfl D_Md_items_0.2.2.1.1 rfl rfl) ?_
      refine z_putI (pc' := 25) (jI := 0) I p_Md_9 ao rfl rfl ax1 D_Md_items_0.2.2.1.2 rfl ?_
      refine z_bH (fun h9 e10 => ?_)
      refine z_s I (s_aload_n (pc' := 26) 1 rfl D_Md_items_0.2.2.2.1 rfl rfl) ?_
      refine z_b1 (fun h13 q12 => ?_)
      refine z_callV (pc' := 29) I mv_Md_begins ml_Md_116 (fun ad => []) ⟨Nat.le_of_ble_eq_true rfl, Nat.le_of_ble_eq_true rfl⟩ ao (fun hh => c_Md_begins hw ao hh q12) rfl rfl (Nat.le_of_ble_eq_true rfl) D_Md_items_0.2.2.2.2 rfl (fun f11 => ?_)
      refine z_s I (s_iload_n (pc' := 30) 0 rfl D_Md_items_1.1 rfl rfl) ?_
      exact z_ret (w := some (vI v6)) I (fun g => gk0 _ _ g f8) ⟨_, rfl⟩ D_Md_items_1.2 rfl
    · refine z_s I (s_bipush (pc' := 14) D_Md_items_0.1.2.2.1 rfl rfl) ?_
      exact z_ret (w := some (vI (-2))) I (fun g => gk0 _ _ g (inR_c (x := (-2)) rfl)) ⟨_, rfl⟩ D_Md_items_0.1.2.2.2 rfl
  exact main _ hF (by rw [hG0])
set_option maxHeartbeats 4000000 in
set_option maxRecDepth 20000 in
theorem c_Md_right {l : Launch} {τ : TP} {o : Int} {x1 : Int} {x2 : Int} {h : HP} {r : Int} {h' : HP} (hw : wf τ) (ao : ok τ (4, 10) o) (ax1 : inR x1) (ax2 : inR x2) (hh : hr τ h) (hF : m_Md_right o x1 x2 h = some (r, h')) : Ctr l y_Md_right k_Md_right 4 (Option.some FieldType.int) 2 46 τ (fun ad => [vR ad o, vI x1, vI x2]) h (some (vI r)) h' (inR r) := by
  refine ctr_of (by decide) hw hh (fun ad => Nat.le_of_ble_eq_true rfl) (fun ad K Y I hK => ?_)
  obtain ⟨G0, hG0⟩ : ∃ G : Int × HP → Prop, G = fun x => x = (r, h') := ⟨_, rfl⟩
  have gk0 : ∀ (x : Int) (y : HP), G0 (x, y) → inR x → K (some (vI x)) y := fun x y g q => by
    rw [hG0] at g
    cases g
    exact hK q
  have main : Z Y (m_Md_right o x1 x2 h) G0 h 0 [(0, vR ad o), (1, vI x1), (2, vI x2)] [] := by
    unfold m_Md_right
    refine z_s I (s_aload_n (pc' := 1) 0 rfl D_Md_right_0.1.1.1.1 rfl rfl) ?_
    refine z_s I (s_iload_n (pc' := 2) 1 rfl D_Md_right_0.1.1.1.2 rfl rfl) ?_
    refine z_b1 (fun r3 q2 => ?_)
    refine z_callV (pc' := 5) I mv_Md_isItem ml_Md_160 (fun ad => [vI x1]) ⟨Nat.le_of_ble_eq_true rfl, Nat.le_of_ble_eq_true rfl⟩ ao (fun hh => c_Md_isItem hw ao ax1 hh q2) rfl rfl (Nat.le_of_ble_eq_true rfl) D_Md_right_0.1.1.2.1 rfl (fun f1 => ?_)
    refine z_if_ne (tgt := 10) (pc' := 8) I (b01.R f1) D_Md_right_0.1.1.2.2 rfl rfl (fun c4 => ?_) (fun c4 => ?_)
    · refine z_s I (s_iload_n (pc' := 11) 2 rfl D_Md_right_0.1.2.2.1 rfl rfl) ?_
      refine z_s I (s_i2l (pc' := 12) ax2 D_Md_right_0.1.2.2.2 rfl) ?_
      refine z_s I (s_lconst (pc' := 13) (x := 0) D_Md_right_0.2.1.1.1 rfl rfl) ?_
      refine z_ldc2 (pc' := 16) (x := 3) I cl_Md_163 (by decide +kernel) D_Md_right_0.2.1.1.2 rfl ?_
      refine z_b1 (fun r7 q6 => ?_)
      refine z_callS (pc' := 19) I mv_Md_in ml_Md_119 (fun ad => [vL x2, vL 0, vL 3]) ⟨Nat.le_of_ble_eq_true rfl, Nat.le_of_ble_eq_true rfl⟩ (fun hh => c_Md_in hw (ax2).L (inL_c (x := 0) rfl) (inL_c (x := 3) rfl) hh q6) rfl rfl (Nat.le_of_ble_eq_true rfl) D_Md_right_0.2.1.2.1 rfl (fun f5 => ?_)
      refine z_if_ne (tgt := 25) (pc' := 22) I (b01.R f5) D_Md_right_0.2.1.2.2 rfl rfl (fun c8 => ?_) (fun c8 => ?_)
      · refine z_s I (s_aload_n (pc' := 26) 0 rfl D_Md_right_0.2.2.2.1 rfl rfl) ?_
        refine z_getR (pc' := 29) (eI := o + 1) I g_Md_15 ao rfl (by omega) D_Md_right_0.2.2.2.2 rfl ?_
        have k9 : ok τ (0, 8) (o + 1) := r_Md_right hw ao (by omega)
        refine z_s I (s_iload_n (pc' := 30) 1 rfl D_Md_right_1.1.1.1 rfl rfl) ?_
        refine z_iald (pc' := 31) (nI := 8) I k9 ax1 rfl D_Md_right_1.1.1.2 rfl (fun c10 f11 => ?_)
        refine z_bI f11 (fun v12 e13 f14 => ?_)
        refine z_s I (s_istore_n (pc' := 32) (lv' := [(3, vI v12), (0, vR ad o), (1, vI x1), (2, vI x2)]) D_Md_right_1.1.2.1 rfl (by decide) rfl rfl) ?_
        refine z_s I (s_aload_n (pc' := 33) 1 rfl D_Md_right_1.1.2.2.1 rfl rfl) ?_
        refine z_getR (pc' := 36) (eI := o + 1) I g_Md_15 ao rfl (by omega) D_Md_right_1.1.2.2.2 rfl ?_
        have k15 : ok τ (0, 8) (o + 1) := r_Md_right hw ao (by omega)
        refine z_s I (s_iload_n (pc' := 37) 2 rfl D_Md_right_1.2.1.1 rfl rfl) ?_
        refine z_s I (s_iload_n (pc' := 38) 3 rfl D_Md_right_1.2.1.2 rfl rfl) ?_
        refine z_iast (pc' := 39) (nI := 8) I k15 ax1 ax2 rfl D_Md_right_1.2.2.1 rfl (fun c16 => ?_)
        refine z_bH (fun h17 e18 => ?_)
        refine z_s I (s_iload_n (pc' := 40) 0 rfl D_Md_right_1.2.2.2.1 rfl rfl) ?_
        exact z_ret (w := some (vI v12)) I (fun g => gk0 _ _ g f14) ⟨_, rfl⟩ D_Md_right_1.2.2.2.2 rfl
      · refine z_s I (s_bipush (pc' := 24) D_Md_right_0.2.2.1.1 rfl rfl) ?_
        exact z_ret (w := some (vI (-2))) I (fun g => gk0 _ _ g (inR_c (x := (-2)) rfl)) ⟨_, rfl⟩ D_Md_right_0.2.2.1.2 rfl
    · refine z_s I (s_iconst (pc' := 9) D_Md_right_0.1.2.1.1 rfl) ?_
      exact z_ret (w := some (vI (-1))) I (fun g => gk0 _ _ g (inR_c (x := (-1)) rfl)) ⟨_, rfl⟩ D_Md_right_0.1.2.1.2 rfl
  exact main _ hF (by rw [hG0])
set_option maxHeartbeats 4000000 in
set_option maxRecDepth 20000 in
theorem c_Md_model {l : Launch} {τ : TP} {o : Int} {x1 : Int} {x2 : Int} {h : HP} {r : Int} {h' : HP} (hw : wf τ) (ao : ok τ (4, 10) o) (ax1 : inR x1) (ax2 : inR x2) (hh : hr τ h) (hF : m_Md_model o x1 x2 h = some (r, h')) : Ctr l y_Md_model k_Md_model 4 (Option.some FieldType.int) 2 46 τ (fun ad => [vR ad o, vI x1, vI x2]) h (some (vI r)) h' (inR r) := by
  refine ctr_of (by decide) hw hh (fun ad => Nat.le_of_ble_eq_true rfl) (fun ad K Y I hK => ?_)
  obtain ⟨G0, hG0⟩ : ∃ G : Int × HP → Prop, G = fun x => x = (r, h') := ⟨_, rfl⟩
  have gk0 : ∀ (x : Int) (y : HP), G0 (x, y) → inR x → K (some (vI x)) y := fun x y g q => by
    rw [hG0] at g
    cases g
    exact hK q
  have main : Z Y (m_Md_model o x1 x2 h) G0 h 0 [(0, vR ad o), (1, vI x1), (2, vI x2)] [] := by
    unfold m_Md_model
    refine z_s I (s_aload_n (pc' := 1) 0 rfl D_Md_model_0.1.1.1.1 rfl rfl) ?_
    refine z_s I (s_iload_n (pc' := 2) 1 rfl D_Md_model_0.1.1.1.2 rfl rfl) ?_
    refine z_b1 (fun r3 q2 => ?_)
    refine z_callV (pc' := 5) I mv_Md_isItem ml_Md_160 (fun ad => [vI x1]) ⟨Nat.le_of_ble_eq_true rfl, Nat.le_of_ble_eq_true rfl⟩ ao (fun hh => c_Md_isItem hw ao ax1 hh q2) rfl rfl (Nat.le_of_ble_eq_true rfl) D_Md_model_0.1.1.2.1 rfl (fun f1 => ?_)
    refine z_if_ne (tgt := 10) (pc' := 8) I (b01.R f1) D_Md_model_0.1.1.2.2 rfl rfl (fun c4 => ?_) (fun c4 => ?_)
    · refine z_s I (s_iload_n (pc' := 11) 2 rfl D_Md_model_0.1.2.2.1 rfl rfl) ?_
      refine z_s I (s_i2l (pc' := 12) ax2 D_Md_model_0.1.2.2.2 rfl) ?_
      refine z_s I (s_lconst (pc' := 13) (x := 0) D_Md_model_0.2.1.1.1 rfl rfl) ?_
      refine z_ldc2 (pc' := 16) (x := 3) I cl_Md_163 (by decide +kernel) D_Md_model_0.2.1.1.2 rfl ?_
      refine z_b1 (fun r7 q6 => ?_)
      refine z_callS (pc' := 19) I mv_Md_in ml_Md_119 (fun ad => [vL x2, vL 0, vL 3]) ⟨Nat.le_of_ble_eq_true rfl, Nat.le_of_ble_eq_true rfl⟩ (fun hh => c_Md_in hw (ax2).L (inL_c (x := 0) rfl) (inL_c (x := 3) rfl) hh q6) rfl rfl (Nat.le_of_ble_eq_true rfl) D_Md_model_0.2.1.2.1 rfl (fun f5 => ?_)
      refine z_if_ne (tgt := 25) (pc' := 22) I (b01.R f5) D_Md_model_0.2.1.2.2 rfl rfl (fun c8 => ?_) (fun c8 => ?_)
      · refine z_s I (s_aload_n (pc' := 26) 0 rfl D_Md_model_0.2.2.2.1 rfl rfl) ?_
        refine z_getR (pc' := 29) (eI := o + 2) I g_Md_19 ao rfl (by omega) D_Md_model_0.2.2.2.2 rfl ?_
        have k9 : ok τ (0, 8) (o + 2) := r_Md_kind hw ao (by omega)
        refine z_s I (s_iload_n (pc' := 30) 1 rfl D_Md_model_1.1.1.1 rfl rfl) ?_
        refine z_iald (pc' := 31) (nI := 8) I k9 ax1 rfl D_Md_model_1.1.1.2 rfl (fun c10 f11 => ?_)
        refine z_bI f11 (fun v12 e13 f14 => ?_)
        refine z_s I (s_istore_n (pc' := 32) (lv' := [(3, vI v12), (0, vR ad o), (1, vI x1), (2, vI x2)]) D_Md_model_1.1.2.1 rfl (by decide) rfl rfl) ?_
        refine z_s I (s_aload_n (pc' := 33) 1 rfl D_Md_model_1.1.2.2.1 rfl rfl) ?_
        refine z_getR (pc' := 36) (eI := o + 2) I g_Md_19 ao rfl (by omega) D_Md_model_1.1.2.2.2 rfl ?_
        have k15 : ok τ (0, 8) (o + 2) := r_Md_kind hw ao (by omega)
        refine z_s I (s_iload_n (pc' := 37) 2 rfl D_Md_model_1.2.1.1 rfl rfl) ?_
        refine z_s I (s_iload_n (pc' := 38) 3 rfl D_Md_model_1.2.1.2 rfl rfl) ?_
        refine z_iast (pc' := 39) (nI := 8) I k15 ax1 ax2 rfl D_Md_model_1.2.2.1 rfl (fun c16 => ?_)
        refine z_bH (fun h17 e18 => ?_)
        refine z_s I (s_iload_n (pc' := 40) 0 rfl D_Md_model_1.2.2.2.1 rfl rfl) ?_
        exact z_ret (w := some (vI v12)) I (fun g => gk0 _ _ g f14) ⟨_, rfl⟩ D_Md_model_1.2.2.2.2 rfl
      · refine z_s I (s_bipush (pc' := 24) D_Md_model_0.2.2.1.1 rfl rfl) ?_
        exact z_ret (w := some (vI (-2))) I (fun g => gk0 _ _ g (inR_c (x := (-2)) rfl)) ⟨_, rfl⟩ D_Md_model_0.2.2.1.2 rfl
    · refine z_s I (s_iconst (pc' := 9) D_Md_model_0.1.2.1.1 rfl) ?_
      exact z_ret (w := some (vI (-1))) I (fun g => gk0 _ _ g (inR_c (x := (-1)) rfl)) ⟨_, rfl⟩ D_Md_model_0.1.2.1.2 rfl
  exact main _ hF (by rw [hG0])
set_option maxHeartbeats 4000000 in
set_option maxRecDepth 20000 in
theorem c_Md_part {l : Launch} {τ : TP} {o : Int} {x1 : Int} {x2 : Int} {x3 : Int} {h : HP} {r : Int} {h' : HP} (hw : wf τ) (ao : ok τ (4, 10) o) (ax1 : inR x1) (ax2 : inR x2) (ax3 : inR x3) (hh : hr τ h) (hF : m_Md_part o x1 x2 x3 h = some (r, h')) : Ctr l y_Md_part k_Md_part 5 (Option.some FieldType.int) 2 46 τ (fun ad => [vR ad o, vI x1, vI x2, vI x3]) h (some (vI r)) h' (inR r) := by
  refine ctr_of (by decide) hw hh (fun ad => Nat.le_of_ble_eq_true rfl) (fun ad K Y I hK => ?_)
  obtain ⟨G0, hG0⟩ : ∃ G : Int × HP → Prop, G = fun x => x = (r, h') := ⟨_, rfl⟩
  have gk0 : ∀ (x : Int) (y : HP), G0 (x, y) → inR x → K (some (vI x)) y := fun x y g q => by
    rw [hG0] at g
    cases g
    exact hK q
  have main : Z Y (m_Md_part o x1 x2 x3 h) G0 h 0 [(0, vR ad o), (1, vI x1), (2, vI x2), (3, vI x3)] [] := by
    unfold m_Md_part
    refine z_s I (s_aload_n (pc' := 1) 0 rfl D_Md_part_0.1.1.1.1 rfl rfl) ?_
    refine z_s I (s_iload_n (pc' := 2) 1 rfl D_Md_part_0.1.1.1.2 rfl rfl) ?_
    refine z_b1 (fun r3 q2 => ?_)
    refine z_callV (pc' := 5) I mv_Md_isItem ml_Md_160 (fun ad => [vI x1]) ⟨Nat.le_of_ble_eq_true rfl, Nat.le_of_ble_eq_true rfl⟩ ao (fun hh => c_Md_isItem hw ao ax1 hh q2) rfl rfl (Nat.le_of_ble_eq_true rfl) D_Md_part_0.1.1.2.1 rfl (fun f1 => ?_)
    refine z_if_eq (tgt := 20) (pc' := 8) I (b01.R f1) D_Md_part_0.1.1.2.2 rfl rfl (fun c4 => ?_) (fun c4 => ?_)
    · refine z_s I (s_iconst (pc' := 21) D_Md_part_0.2.1.2.1 rfl) ?_
      exact z_ret (w := some (vI (-1))) I (fun g => gk0 _ _ g (inR_c (x := (-1)) rfl)) ⟨_, rfl⟩ D_Md_part_0.2.1.2.2 rfl
    · refine z_s I (s_iload_n (pc' := 9) 2 rfl D_Md_part_0.1.2.1.1 rfl rfl) ?_
      refine z_s I (s_i2l (pc' := 10) ax2 D_Md_part_0.1.2.1.2 rfl) ?_
      refine z_s I (s_lconst (pc' := 11) (x := 0) D_Md_part_0.1.2.2.1 rfl rfl) ?_
      refine z_ldc2 (pc' := 14) (x := 3) I cl_Md_163 (by decide +kernel) D_Md_part_0.1.2.2.2 rfl ?_
      refine z_b1 (fun r7 q6 => ?_)
      refine z_callS (pc' := 17) I mv_Md_in ml_Md_119 (fun ad => [vL x2, vL 0, vL 3]) ⟨Nat.le_of_ble_eq_true rfl, Nat.le_of_ble_eq_true rfl⟩ (fun hh => c_Md_in hw (ax2).L (inL_c (x := 0) rfl) (inL_c (x := 3) rfl) hh q6) rfl rfl (Nat.le_of_ble_eq_true rfl) D_Md_part_0.2.1.1.1 rfl (fun f5 => ?_)
      refine z_if_ne (tgt := 22) (pc' := 20) I (b01.R f5) D_Md_part_0.2.1.1.2 rfl rfl (fun c8 => ?_) (fun c8 => ?_)
      · refine z_s I (s_iload_n (pc' := 23) 3 rfl D_Md_part_0.2.2.1.1 rfl rfl) ?_
        refine z_s I (s_i2l (pc' := 24) ax3 D_Md_part_0.2.2.1.2 rfl) ?_
        refine z_s I (s_lconst (pc' := 25) (x := 1) D_Md_part_0.2.2.2.1 rfl rfl) ?_
        refine z_ldc2 (pc' := 28) (x := 3) I cl_Md_163 (by decide +kernel) D_Md_part_0.2.2.2.2 rfl ?_
        refine z_b1 (fun r11 q10 => ?_)
        refine z_callS (pc' := 31) I mv_Md_in ml_Md_119 (fun ad => [vL x3, vL 1, vL 3]) ⟨Nat.le_of_ble_eq_true rfl, Nat.le_of_ble_eq_true rfl⟩ (fun hh => c_Md_in hw (ax3).L (inL_c (x := 1) rfl) (inL_c (x := 3) rfl) hh q10) rfl rfl (Nat.le_of_ble_eq_true rfl) D_Md_part_1.1.1.1.1 rfl (fun f9 => ?_)
        refine z_if_ne (tgt := 37) (pc' := 34) I (b01.R f9) D_Md_part_1.1.1.1.2 rfl rfl (fun c12 => ?_) (fun c12 => ?_)
        · refine z_s I (s_aload_n (pc' := 38) 0 rfl D_Md_part_1.1.2.1.1 rfl rfl) ?_
          refine z_getR (pc' := 41) (eI := o + 3) I g_Md_22 ao rfl (by omega) D_Md_part_1.1.2.1.2 rfl ?_
          have k13 : ok τ (0, 32) (o + 3) := r_Md_parts hw ao (by omega)
          refine z_s I (s_iconst (pc' := 42) D_Md_part_1.1.2.2.1 rfl) ?_
          refine z_s I (s_iload_n (pc' := 43) 1 rfl D_Md_part_1.1.2.2.2 rfl rfl) ?_
          refine z_s I (s_imul (pc' := 44) D_Md_part_1.2.1.1.1 rfl) ?_
          refine z_s I (s_iload_n (pc' := 45) 2 rfl D_Md_part_1.2.1.1.2 rfl rfl) ?_
          refine z_s I (s_iadd (pc' := 46) D_Md_part_1.2.1.2.1 rfl) ?_
          refine z_iald (pc' := 47) (nI := 32) I k13 (inR_w32 _) rfl D_Md_part_1.2.1.2.2 rfl (fun c14 f15 => ?_)
          refine z_bI f15 (fun v16 e17 f18 => ?_)
          refine z_s I (s_istore (pc' := 49) (lv' := [(4, vI v16), (0, vR ad o), (1, vI x1), (2, vI x2), (3, vI x3)]) D_Md_part_1.2.2.1.1 (by decide) rfl rfl) ?_
          refine z_s I (s_aload_n (pc' := 50) 1 rfl D_Md_part_1.2.2.1.2 rfl rfl) ?_
          refine z_getR (pc' := 53) (eI := o + 3) I g_Md_22 ao rfl (by omega) D_Md_part_1.2.2.2.1 rfl ?_
          have k19 : ok τ (0, 32) (o + 3) := r_Md_parts hw ao (by omega)
          refine z_s I (s_iconst (pc' := 54) D_Md_part_1.2.2.2.2 rfl) ?_
          refine z_s I (s_iload_n (pc' := 55) 2 rfl D_Md_part_2.1.1.1 rfl rfl) ?_
          refine z_s I (s_imul (pc' := 56) D_Md_part_2.1.1.2 rfl) ?_
          refine z_s I (s_iload_n (pc' := 57) 3 rfl D_Md_part_2.1.2.1 rfl rfl) ?_
          refine z_s I (s_iadd (pc' := 58) D_Md_part_2.1.2.2 rfl) ?_
          refine z_s I (s_iload_n (pc' := 59) 4 rfl D_Md_part_2.2.1.1 rfl rfl) ?_
          refine z_iast (pc' := 60) (nI := 32) I k19 (inR_w32 _) ax3 rfl D_Md_part_2.2.1.2 rfl (fun c20 => ?_)
          refine z_bH (fun h21 e22 => ?_)
          refine z_s I (s_iload (pc' := 62) 0 rfl D_Md_part_2.2.2.1 rfl) ?_
          exact z_ret (w := some (vI v16)) I (fun g => gk0 _ _ g f18) ⟨_, rfl⟩ D_Md_part_2.2.2.2 rfl
        · refine z_s I (s_bipush (pc' := 36) D_Md_part_1.1.1.2.1 rfl rfl) ?_
          exact z_ret (w := some (vI (-2))) I (fun g => gk0 _ _ g (inR_c (x := (-2)) rfl)) ⟨_, rfl⟩ D_Md_part_1.1.1.2.2 rfl
      · refine z_s I (s_iconst (pc' := 21) D_Md_part_0.2.1.2.1 rfl) ?_
        exact z_ret (w := some (vI (-1))) I (fun g => gk0 _ _ g (inR_c (x := (-1)) rfl)) ⟨_, rfl⟩ D_Md_part_0.2.1.2.2 rfl
  exact main _ hF (by rw [hG0])
set_option maxHeartbeats 4000000 in
set_option maxRecDepth 20000 in
theorem c_Md_candidate {l : Launch} {τ : TP} {o : Int} {h : HP} {r : Int} {h' : HP} (hw : wf τ) (ao : ok τ (4, 10) o) (hh : hr τ h) (hF : m_Md_candidate o h = some (r, h')) : Ctr l y_Md_candidate k_Md_candidate 2 (Option.some FieldType.int) 0 0 τ (fun ad => [vR ad o]) h (some (vI r)) h' (inR r) := by
  refine ctr_of (by decide) hw hh (fun ad => Nat.le_of_ble_eq_true rfl) (fun ad K Y I hK => ?_)
  obtain ⟨G0, hG0⟩ : ∃ G : Int × HP → Prop, G = fun x => x = (r, h') := ⟨_, rfl⟩
  have gk0 : ∀ (x : Int) (y : HP), G0 (x, y) → inR x → K (some (vI x)) y := fun x y g q => by
    rw [hG0] at g
    cases g
    exact hK q
  have J41 : ∀ (h : HP), Z Y (m_Md_candidate_J41 o h) G0 h 41 [(0, vR ad o)] [] := by
    intro h
    unfold m_Md_candidate_J41
    refine z_s I (s_aload_n (pc' := 42) 0 rfl D_Md_candidate_1.1.2.2.2 rfl rfl) ?_
    refine z_getR (pc' := 45) (eI := o + 5) I g_Md_28 ao rfl (by omega) D_Md_candidate_1.2.1.1.1 rfl ?_
    have k1 : ok τ (0, 8) (o + 5) := r_Md_row hw ao (by omega)
    refine z_s I (s_aload_n (pc' := 46) 0 rfl D_Md_candidate_1.2.1.1.2 rfl rfl) ?_
    refine z_getI (pc' := 49) (jI := 1) I g_Md_123 ao rfl rfl D_Md_candidate_1.2.1.2.1 rfl (fun f2 => ?_)
    refine z_s I (s_iconst (pc' := 50) D_Md_candidate_1.2.1.2.2 rfl) ?_
    refine z_iast (pc' := 51) (nI := 8) I k1 f2 (inR_c (x := (-1)) rfl) rfl D_Md_candidate_1.2.2.1.1 rfl (fun c3 => ?_)
    refine z_bH (fun h4 e5 => ?_)
    refine z_s I (s_aload_n (pc' := 52) 0 rfl D_Md_candidate_1.2.2.1.2 rfl rfl) ?_
    refine z_getR (pc' := 55) (eI := o + 6) I g_Md_31 ao rfl (by omega) D_Md_candidate_1.2.2.2.1 rfl ?_
    have k6 : ok τ (0, 8) (o + 6) := r_Md_place hw ao (by omega)
    refine z_s I (s_aload_n (pc' := 56) 0 rfl D_Md_candidate_1.2.2.2.2 rfl rfl) ?_
    refine z_getI (pc' := 59) (jI := 1) I g_Md_123 ao rfl rfl D_Md_candidate_2.1.1.1 rfl (fun f7 => ?_)
    refine z_s I (s_iconst (pc' := 60) D_Md_candidate_2.1.1.2.1 rfl) ?_
    refine z_iast (pc' := 61) (nI := 8) I k6 f7 (inR_c (x := (-1)) rfl) rfl D_Md_candidate_2.1.1.2.2 rfl (fun c8 => ?_)
    refine z_bH (fun h9 e10 => ?_)
    refine z_s I (s_aload_n (pc' := 62) 0 rfl D_Md_candidate_2.1.2.1.1 rfl rfl) ?_
    refine z_s I (s_dup (pc' := 63) rfl D_Md_candidate_2.1.2.1.2 rfl) ?_
    refine z_getI (pc' := 66) (jI := 1) I g_Md_123 ao rfl rfl D_Md_candidate_2.1.2.2.1 rfl (fun f11 => ?_)
    refine z_s I (s_iconst (pc' := 67) D_Md_candidate_2.1.2.2.2 rfl) ?_
    refine z_s I (s_iadd (pc' := 68) D_Md_candidate_2.2.1.1 rfl) ?_
    refine z_putI (pc' := 71) (jI := 1) I p_Md_123 ao rfl rfl (inR_w32 _) D_Md_candidate_2.2.1.2.1 rfl ?_
    refine z_bH (fun h12 e13 => ?_)
    refine z_s I (s_aload_n (pc' := 72) 0 rfl D_Md_candidate_2.2.1.2.2 rfl rfl) ?_
    refine z_getI (pc' := 75) (jI := 1) I g_Md_123 ao rfl rfl D_Md_candidate_2.2.2.1.1 rfl (fun f14 => ?_)
    refine z_s I (s_iconst (pc' := 76) D_Md_candidate_2.2.2.1.2 rfl) ?_
    refine z_s I (s_isub (pc' := 77) D_Md_candidate_2.2.2.2.1 rfl) ?_
    exact z_ret (w := some (vI (w32 ((h12 o 1) - 1)))) I (fun g => gk0 _ _ g (inR_w32 _)) ⟨_, rfl⟩ D_Md_candidate_2.2.2.2.2 rfl
  have L14 : ∀ (s : Int × HP), (inR (s.1)) → Z Y (m_Md_candidate_L14 o s) G0 (s.2) 14 [(0, vR ad o), (1, vI (s.1))] [] := by
    intro s hs
    refine z_loop (G := G0) (hO := fun s : Int × HP => s.2) (lO := fun s : Int × HP => [(0, vR ad o), (1, vI (s.1))]) (Φ := fun s : Int × HP => inR (s.1)) (fun G1 hin1_1 hout1 s hs => ?_) FUEL s hs
    obtain ⟨x1, h⟩ := s
    have ax1 := hs
    have gk1 := fun (x : Int) (y : HP) (g : G1 (.inr ((x, y)))) (q : inR x) => gk0 x y (hout1 _ g) q
    show Z Y (m_Md_candidate_L14b o x1 h) G1 h 14 [(0, vR ad o), (1, vI x1)] []
    unfold m_Md_candidate_L14b
    refine z_s I (s_iload_n (pc' := 15) 1 rfl D_Md_candidate_0.2.1.1.1 rfl rfl) ?_
    refine z_s I (s_bipush (pc' := 17) D_Md_candidate_0.2.1.1.2 rfl rfl) ?_
    refine z_icmp_ge (tgt := 41) (pc' := 20) I ax1 (inR_c (x := 8) rfl) D_Md_candidate_0.2.1.2.1 rfl rfl (fun c15 => ?_) (fun c15 => ?_)
    · refine z_map _ (fun x g => hout1 x g) ?_
      refine z_s I (s_lv (lv' := [(0, vR ad o)]) [0] rfl) ?_
      exact J41 _
    · refine z_s I (s_aload_n (pc' := 21) 0 rfl D_Md_candidate_0.2.1.2.2 rfl rfl) ?_
      refine z_getR (pc' := 24) (eI := o + 4) I g_Md_25 ao rfl (by omega) D_Md_candidate_0.2.2.1.1 rfl ?_
      have k16 : ok τ (0, 64) (o + 4) := r_Md_given hw ao (by omega)
      refine z_s I (s_bipush (pc' := 26) D_Md_candidate_0.2.2.1.2 rfl rfl) ?_
      refine z_s I (s_aload_n (pc' := 27) 0 rfl D_Md_candidate_0.2.2.2.1 rfl rfl) ?_
      refine z_getI (pc' := 30) (jI := 1) I g_Md_123 ao rfl rfl D_Md_candidate_0.2.2.2.2 rfl (fun f17 => ?_)
      refine z_s I (s_imul (pc' := 31) D_Md_candidate_1.1.1.1.1 rfl) ?_
      refine z_s I (s_iload_n (pc' := 32) 1 rfl D_Md_candidate_1.1.1.1.2 rfl rfl) ?_
      refine z_s I (s_iadd (pc' := 33) D_Md_candidate_1.1.1.2.1 rfl) ?_
      refine z_s I (s_iconst (pc' := 34) D_Md_candidate_1.1.1.2.2 rfl) ?_
      refine z_iast (pc' := 35) (nI := 64) I k16 (inR_w32 _) (inR_c (x := (-1)) rfl) rfl D_Md_candidate_1.1.2.1.1 rfl (fun c18 => ?_)
      refine z_bH (fun h19 e20 => ?_)
      refine z_s I (s_iinc (pc' := 38) (lv' := [(1, vI (w32 (x1 + 1))), (0, vR ad o)]) (n := 1) rfl D_Md_candidate_1.1.2.1.2 (by decide) rfl rfl) ?_
      refine z_s I (s_goto (tgt := 14) D_Md_candidate_1.1.2.2.1 rfl) ?_
      refine z_s I (s_lv (lv' := [(0, vR ad o), (1, vI (w32 (x1 + 1)))]) [1, 0] rfl) ?_
      exact z_end (fun g => hin1_1 _ g (inR_w32 _))
  have main : Z Y (m_Md_candidate o h) G0 h 0 [(0, vR ad o)] [] := by
    unfold m_Md_candidate
    refine z_s I (s_aload_n (pc' := 1) 0 rfl D_Md_candidate_0.1.1.1.1 rfl rfl) ?_
    refine z_getI (pc' := 4) (jI := 1) I g_Md_123 ao rfl rfl D_Md_candidate_0.1.1.1.2 rfl (fun f21 => ?_)
    refine z_s I (s_bipush (pc' := 6) D_Md_candidate_0.1.1.2.1 rfl rfl) ?_
    refine z_icmp_ne (tgt := 12) (pc' := 9) I f21 (inR_c (x := 8) rfl) D_Md_candidate_0.1.1.2.2 rfl rfl (fun c22 => ?_) (fun c22 => ?_)
    · refine z_s I (s_iconst (pc' := 13) D_Md_candidate_0.1.2.2.1 rfl) ?_
      refine z_s I (s_istore_n (pc' := 14) (lv' := [(1, vI 0), (0, vR ad o)]) D_Md_candidate_0.1.2.2.2 rfl (by decide) rfl rfl) ?_
      refine z_s I (s_lv (lv' := [(0, vR ad o), (1, vI 0)]) [1, 0] rfl) ?_
      exact L14 _ (b01.R bz0)
    · refine z_s I (s_bipush (pc' := 11) D_Md_candidate_0.1.2.1.1 rfl rfl) ?_
      exact z_ret (w := some (vI (-4))) I (fun g => gk0 _ _ g (inR_c (x := (-4)) rfl)) ⟨_, rfl⟩ D_Md_candidate_0.1.2.1.2 rfl
  exact main _ hF (by rw [hG0])
set_option maxHeartbeats 4000000 in
set_option maxRecDepth 20000 in
theorem c_Md_told {l : Launch} {τ : TP} {x0 : Int} {h : HP} {r : Int} (hw : wf τ) (ax0 : inR x0) (hh : hr τ h) (hF : m_Md_told x0 h = some r) : Ctr l y_Md_told k_Md_told 1 (Option.some FieldType.int) 0 0 τ (fun ad => [vI x0]) h (some (vI r)) h (inR r) := by
  refine ctr_of (by decide) hw hh (fun ad => Nat.le_of_ble_eq_true rfl) (fun ad K Y I hK => ?_)
  obtain ⟨G0, hG0⟩ : ∃ G : Int → Prop, G = fun x => x = r := ⟨_, rfl⟩
  have gk0 : ∀ (x : Int), G0 x → inR x → K (some (vI x)) h := fun x g q => by
    rw [hG0] at g
    cases g
    exact hK q
  have main : Z Y (m_Md_told x0 h) G0 h 0 [(0, vI x0)] [] := by
    unfold m_Md_told
    refine z_s I (s_iload_n (pc' := 1) 0 rfl D_Md_told_0.1.1 rfl rfl) ?_
    refine z_if_ge (tgt := 9) (pc' := 4) I ax0 D_Md_told_0.1.2.1 rfl rfl (fun c1 => ?_) (fun c1 => ?_)
    · refine z_s I (s_iload_n (pc' := 10) 0 rfl D_Md_told_0.2.2.1 rfl rfl) ?_
      exact z_ret (w := some (vI x0)) I (fun g => gk0 _ g ax0) ⟨_, rfl⟩ D_Md_told_0.2.2.2 rfl
    · refine z_s I (s_bipush (pc' := 6) D_Md_told_0.1.2.2 rfl rfl) ?_
      refine z_s I (s_goto (tgt := 10) D_Md_told_0.2.1 rfl) ?_
      exact z_ret (w := some (vI (-5))) I (fun g => gk0 _ g (inR_c (x := (-5)) rfl)) ⟨_, rfl⟩ D_Md_told_0.2.2.2 rfl
  exact main _ hF (by rw [hG0])
set_option maxHeartbeats 4000000 in
set_option maxRecDepth 20000 in
theorem c_Md_gives {l : Launch} {τ : TP} {o : Int} {x1 : Int} {x2 : Int} {x3 : Int} {h : HP} {r : Int} {h' : HP} (hw : wf τ) (ao : ok τ (4, 10) o) (ax1 : inR x1) (ax2 : inR x2) (ax3 : inR x3) (hh : hr τ h) (hF : m_Md_gives o x1 x2 x3 h = some (r, h')) : Ctr l y_Md_gives k_Md_gives 5 (Option.some FieldType.int) 2 46 τ (fun ad => [vR ad o, vI x1, vI x2, vI x3]) h (some (vI r)) h' (inR r) := by
  refine ctr_of (by decide) hw hh (fun ad => Nat.le_of_ble_eq_true rfl) (fun ad K Y I hK => ?_)
  obtain ⟨G0, hG0⟩ : ∃ G : Int × HP → Prop, G = fun x => x = (r, h') := ⟨_, rfl⟩
  have gk0 : ∀ (x : Int) (y : HP), G0 (x, y) → inR x → K (some (vI x)) y := fun x y g q => by
    rw [hG0] at g
    cases g
    exact hK q
  have main : Z Y (m_Md_gives o x1 x2 x3 h) G0 h 0 [(0, vR ad o), (1, vI x1), (2, vI x2), (3, vI x3)] [] := by
    unfold m_Md_gives
    refine z_s I (s_aload_n (pc' := 1) 0 rfl D_Md_gives_0.1.1.1.1 rfl rfl) ?_
    refine z_s I (s_iload_n (pc' := 2) 1 rfl D_Md_gives_0.1.1.1.2 rfl rfl) ?_
    refine z_b1 (fun r3 q2 => ?_)
    refine z_callV (pc' := 5) I mv_Md_isOne ml_Md_126 (fun ad => [vI x1]) ⟨Nat.le_of_ble_eq_true rfl, Nat.le_of_ble_eq_true rfl⟩ ao (fun hh => c_Md_isOne hw ao ax1 hh q2) rfl rfl (Nat.le_of_ble_eq_true rfl) D_Md_gives_0.1.1.2.1 rfl (fun f1 => ?_)
    refine z_if_eq (tgt := 16) (pc' := 8) I (b01.R f1) D_Md_gives_0.1.1.2.2 rfl rfl (fun c4 => ?_) (fun c4 => ?_)
    · refine z_s I (s_iconst (pc' := 17) D_Md_gives_0.2.1.1.1 rfl) ?_
      exact z_ret (w := some (vI (-1))) I (fun g => gk0 _ _ g (inR_c (x := (-1)) rfl)) ⟨_, rfl⟩ D_Md_gives_0.2.1.1.2 rfl
    · refine z_s I (s_aload_n (pc' := 9) 0 rfl D_Md_gives_0.1.2.1.1 rfl rfl) ?_
      refine z_s I (s_iload_n (pc' := 10) 2 rfl D_Md_gives_0.1.2.1.2 rfl rfl) ?_
      refine z_b1 (fun r7 q6 => ?_)
      refine z_callV (pc' := 13) I mv_Md_isItem ml_Md_160 (fun ad => [vI x2]) ⟨Nat.le_of_ble_eq_true rfl, Nat.le_of_ble_eq_true rfl⟩ ao (fun hh => c_Md_isItem hw ao ax2 hh q6) rfl rfl (Nat.le_of_ble_eq_true rfl) D_Md_gives_0.1.2.2.1 rfl (fun f5 => ?_)
      refine z_if_ne (tgt := 18) (pc' := 16) I (b01.R f5) D_Md_gives_0.1.2.2.2 rfl rfl (fun c8 => ?_) (fun c8 => ?_)
      · refine z_s I (s_iload_n (pc' := 19) 3 rfl D_Md_gives_0.2.1.2.1 rfl rfl) ?_
        refine z_s I (s_i2l (pc' := 20) ax3 D_Md_gives_0.2.1.2.2 rfl) ?_
        refine z_ldc2 (pc' := 23) (x := (-1)) I cl_Md_165 (by decide +kernel) D_Md_gives_0.2.2.1.1 rfl ?_
        refine z_ldc2 (pc' := 26) (x := 3) I cl_Md_163 (by decide +kernel) D_Md_gives_0.2.2.1.2 rfl ?_
        refine z_b1 (fun r11 q10 => ?_)
        refine z_callS (pc' := 29) I mv_Md_in ml_Md_119 (fun ad => [vL x3, vL (-1), vL 3]) ⟨Nat.le_of_ble_eq_true rfl, Nat.le_of_ble_eq_true rfl⟩ (fun hh => c_Md_in hw (ax3).L (inL_c (x := (-1)) rfl) (inL_c (x := 3) rfl) hh q10) rfl rfl (Nat.le_of_ble_eq_true rfl) D_Md_gives_0.2.2.2.1 rfl (fun f9 => ?_)
        refine z_if_ne (tgt := 35) (pc' := 32) I (b01.R f9) D_Md_gives_0.2.2.2.2 rfl rfl (fun c12 => ?_) (fun c12 => ?_)
        · refine z_s I (s_aload_n (pc' := 36) 0 rfl D_Md_gives_1.1.1.2.1 rfl rfl) ?_
          refine z_getR (pc' := 39) (eI := o + 4) I g_Md_25 ao rfl (by omega) D_Md_gives_1.1.1.2.2 rfl ?_
          have k13 : ok τ (0, 64) (o + 4) := r_Md_given hw ao (by omega)
          refine z_s I (s_bipush (pc' := 41) D_Md_gives_1.1.2.1.1 rfl rfl) ?_
          refine z_s I (s_iload_n (pc' := 42) 1 rfl D_Md_gives_1.1.2.1.2 rfl rfl) ?_
          refine z_s I (s_imul (pc' := 43) D_Md_gives_1.1.2.2.1 rfl) ?_
          refine z_s I (s_iload_n (pc' := 44) 2 rfl D_Md_gives_1.1.2.2.2 rfl rfl) ?_
          refine z_s I (s_iadd (pc' := 45) D_Md_gives_1.2.1.1.1 rfl) ?_
          refine z_iald (pc' := 46) (nI := 64) I k13 (inR_w32 _) rfl D_Md_gives_1.2.1.1.2 rfl (fun c14 f15 => ?_)
          refine z_bI f15 (fun v16 e17 f18 => ?_)
          refine z_s I (s_istore (pc' := 48) (lv' := [(4, vI v16), (0, vR ad o), (1, vI x1), (2, vI x2), (3, vI x3)]) D_Md_gives_1.2.1.2.1 (by decide) rfl rfl) ?_
          refine z_s I (s_aload_n (pc' := 49) 1 rfl D_Md_gives_1.2.1.2.2 rfl rfl) ?_
          refine z_getR (pc' := 52) (eI := o + 4) I g_Md_25 ao rfl (by omega) D_Md_gives_1.2.2.1.1 rfl ?_
          have k19 : ok τ (0, 64) (o + 4) := r_Md_given hw ao (by omega)
          refine z_s I (s_bipush (pc' := 54) D_Md_gives_1.2.2.1.2 rfl rfl) ?_
          refine z_s I (s_iload_n (pc' := 55) 2 rfl D_Md_gives_1.2.2.2.1 rfl rfl) ?_
          refine z_s I (s_imul (pc' := 56) D_Md_gives_1.2.2.2.2 rfl) ?_
          refine z_s I (s_iload_n (pc' := 57) 3 rfl D_Md_gives_2.1.1 rfl rfl) ?_
          refine z_s I (s_iadd (pc' := 58) D_Md_gives_2.1.2.1 rfl) ?_
          refine z_s I (s_iload_n (pc' := 59) 4 rfl D_Md_gives_2.1.2.2 rfl rfl) ?_
          refine z_iast (pc' := 60) (nI := 64) I k19 (inR_w32 _) ax3 rfl D_Md_gives_2.2.1.1 rfl (fun c20 => ?_)
          refine z_bH (fun h21 e22 => ?_)
          refine z_s I (s_iload (pc' := 62) 0 rfl D_Md_gives_2.2.1.2 rfl) ?_
          refine z_b1 (fun r25 q24 => ?_)
          refine z_callS (pc' := 65) I mv_Md_told ml_Md_167 (fun ad => [vI v16]) ⟨Nat.le_of_ble_eq_true rfl, Nat.le_of_ble_eq_true rfl⟩ (fun hh => c_Md_told hw f18 hh q24) rfl rfl (Nat.le_of_ble_eq_true rfl) D_Md_gives_2.2.2.1 rfl (fun f23 => ?_)
          exact z_ret (w := some (vI r25)) I (fun g => gk0 _ _ g f23) ⟨_, rfl⟩ D_Md_gives_2.2.2.2 rfl
        · refine z_s I (s_bipush (pc' := 34) D_Md_gives_1.1.1.1.1 rfl rfl) ?_
          exact z_ret (w := some (vI (-2))) I (fun g => gk0 _ _ g (inR_c (x := (-2)) rfl)) ⟨_, rfl⟩ D_Md_gives_1.1.1.1.2 rfl
      · refine z_s I (s_iconst (pc' := 17) D_Md_gives_0.2.1.1.1 rfl) ?_
        exact z_ret (w := some (vI (-1))) I (fun g => gk0 _ _ g (inR_c (x := (-1)) rfl)) ⟨_, rfl⟩ D_Md_gives_0.2.1.1.2 rfl
  exact main _ hF (by rw [hG0])
set_option maxHeartbeats 4000000 in
set_option maxRecDepth 20000 in
theorem c_Md_seat {l : Launch} {τ : TP} {o : Int} {x1 : Int} {x2 : Int} {x3 : Int} {h : HP} {r : Int} {h' : HP} (hw : wf τ) (ao : ok τ (4, 10) o) (ax1 : inR x1) (ax2 : inR x2) (ax3 : inR x3) (hh : hr τ h) (hF : m_Md_seat o x1 x2 x3 h = some (r, h')) : Ctr l y_Md_seat k_Md_seat 5 (Option.some FieldType.int) 2 46 τ (fun ad => [vR ad o, vI x1, vI x2, vI x3]) h (some (vI r)) h' (inR r) := by
  refine ctr_of (by decide) hw hh (fun ad => Nat.le_of_ble_eq_true rfl) (fun ad K Y I hK => ?_)
  obtain ⟨G0, hG0⟩ : ∃ G : Int × HP → Prop, G = fun x => x = (r, h') := ⟨_, rfl⟩
  have gk0 : ∀ (x : Int) (y : HP), G0 (x, y) → inR x → K (some (vI x)) y := fun x y g q => by
    rw [hG0] at g
    cases g
    exact hK q
  have J117 : ∀ (s0 : Int) (as0 : ok τ (0, 8) s0) (s1 : Int) (as1 : inR s1) (s2 : Int) (as2 : inR s2) (h : HP), Z Y (m_Md_seat_J117 s0 s1 s2 h) G0 h 117 [] [vI s2, vI s1, vR ad s0] := by
    intro s0 as0 s1 as1 s2 as2 h
    unfold m_Md_seat_J117
    refine z_iast (pc' := 118) (nI := 8) I as0 as1 as2 rfl D_Md_seat_3.2.2.2.1 rfl (fun c1 => ?_)
    refine z_bH (fun h2 e3 => ?_)
    refine z_s I (s_iconst (pc' := 119) D_Md_seat_3.2.2.2.2 rfl) ?_
    exact z_ret (w := some (vI 1)) I (fun g => gk0 _ _ g (b01.R bz1)) ⟨_, rfl⟩ D_Md_seat_4 rfl
  have J96 : ∀ (h : HP), Z Y (m_Md_seat_J96 o x1 x2 x3 h) G0 h 96 [(0, vR ad o), (1, vI x1), (2, vI x2), (3, vI x3)] [] := by
    intro h
    unfold m_Md_seat_J96
    refine z_s I (s_aload_n (pc' := 97) 0 rfl D_Md_seat_3.1.1.1.2 rfl rfl) ?_
    refine z_getR (pc' := 100) (eI := o + 5) I g_Md_28 ao rfl (by omega) D_Md_seat_3.1.1.2.1 rfl ?_
    have k4 : ok τ (0, 8) (o + 5) := r_Md_row hw ao (by omega)
    refine z_s I (s_iload_n (pc' := 101) 1 rfl D_Md_seat_3.1.1.2.2 rfl rfl) ?_
    refine z_s I (s_iload_n (pc' := 102) 2 rfl D_Md_seat_3.1.2.1.1 rfl rfl) ?_
    refine z_iast (pc' := 103) (nI := 8) I k4 ax1 ax2 rfl D_Md_seat_3.1.2.1.2 rfl (fun c5 => ?_)
    refine z_bH (fun h6 e7 => ?_)
    refine z_s I (s_aload_n (pc' := 104) 0 rfl D_Md_seat_3.1.2.2.1 rfl rfl) ?_
    refine z_getR (pc' := 107) (eI := o + 6) I g_Md_31 ao rfl (by omega) D_Md_seat_3.1.2.2.2 rfl ?_
    have k8 : ok τ (0, 8) (o + 6) := r_Md_place hw ao (by omega)
    refine z_s I (s_iload_n (pc' := 108) 1 rfl D_Md_seat_3.2.1.1.1 rfl rfl) ?_
    refine z_s I (s_iload_n (pc' := 109) 2 rfl D_Md_seat_3.2.1.1.2 rfl rfl) ?_
    refine z_if_ge (tgt := 116) (pc' := 112) I ax2 D_Md_seat_3.2.1.2.1 rfl rfl (fun c9 => ?_) (fun c9 => ?_)
    · refine z_s I (s_iload_n (pc' := 117) 3 rfl D_Md_seat_3.2.2.1.2 rfl rfl) ?_
      refine z_s I (s_lv (lv' := []) [] rfl) ?_
      exact J117 _ k8 _ ax1 _ ax3 _
    · refine z_s I (s_iconst (pc' := 113) D_Md_seat_3.2.1.2.2 rfl) ?_
      refine z_s I (s_goto (tgt := 117) D_Md_seat_3.2.2.1.1 rfl) ?_
      refine z_s I (s_lv (lv' := []) [] rfl) ?_
      exact J117 _ k8 _ ax1 _ (inR_c (x := (-1)) rfl) _
  have L46 : ∀ (h : HP) (s : Int), (inR s) → Z Y (m_Md_seat_L46 o x1 x2 x3 h s) G0 h 46 [(0, vR ad o), (1, vI x1), (2, vI x2), (3, vI x3), (4, vI s)] [] := by
    intro h s hs
    refine z_loop (G := G0) (hO := fun s : Int => h) (lO := fun s : Int => [(0, vR ad o), (1, vI x1), (2, vI x2), (3, vI x3), (4, vI s)]) (Φ := fun s : Int => inR s) (fun G1 hin1_1 hout1 s hs => ?_) FUEL s hs
    obtain ⟨x4, rfl⟩ : ∃ z, z = s := ⟨_, rfl⟩
    have ax4 := hs
    have gk1 := fun (x : Int) (y : HP) (g : G1 (.inr ((x, y)))) (q : inR x) => gk0 x y (hout1 _ g) q
    show Z Y (m_Md_seat_L46b o x1 x2 x3 h x4) G1 h 46 [(0, vR ad o), (1, vI x1), (2, vI x2), (3, vI x3), (4, vI x4)] []
    unfold m_Md_seat_L46b
    refine z_s I (s_iload (pc' := 48) 4 rfl D_Md_seat_1.2.1.1.1 rfl) ?_
    refine z_s I (s_aload_n (pc' := 49) 0 rfl D_Md_seat_1.2.1.1.2 rfl rfl) ?_
    refine z_getI (pc' := 52) (jI := 1) I g_Md_123 ao rfl rfl D_Md_seat_1.2.1.2.1 rfl (fun f10 => ?_)
    refine z_icmp_ge (tgt := 96) (pc' := 55) I ax4 f10 D_Md_seat_1.2.1.2.2 rfl rfl (fun c11 => ?_) (fun c11 => ?_)
    · refine z_map _ (fun x g => hout1 x g) ?_
      refine z_s I (s_lv (lv' := [(0, vR ad o), (1, vI x1), (2, vI x2), (3, vI x3)]) [0, 1, 2, 3] rfl) ?_
      exact J96 _
    · refine z_s I (s_iload (pc' := 57) 4 rfl D_Md_seat_1.2.2.1.1 rfl) ?_
      refine z_s I (s_iload_n (pc' := 58) 1 rfl D_Md_seat_1.2.2.1.2 rfl rfl) ?_
      refine z_icmp_eq (tgt := 90) (pc' := 61) I ax4 ax1 D_Md_seat_1.2.2.2.1 rfl rfl (fun c12 => ?_) (fun c12 => ?_)
      · refine z_s I (s_iinc (pc' := 93) (lv' := [(4, vI (w32 (x4 + 1))), (0, vR ad o), (1, vI x1), (2, vI x2), (3, vI x3)]) (n := 4) rfl D_Md_seat_2.2.2.2.2 (by decide) rfl rfl) ?_
        refine z_s I (s_goto (tgt := 46) D_Md_seat_3.1.1.1.1 rfl) ?_
        refine z_s I (s_lv (lv' := [(0, vR ad o), (1, vI x1), (2, vI x2), (3, vI x3), (4, vI (w32 (x4 + 1)))]) [1, 2, 3, 4, 0] rfl) ?_
        exact z_end (fun g => hin1_1 _ g (inR_w32 _))
      · refine z_s I (s_iload_n (pc' := 62) 2 rfl D_Md_seat_1.2.2.2.2 rfl rfl) ?_
        refine z_if_lt (tgt := 90) (pc' := 65) I ax2 D_Md_seat_2.1.1.1.1 rfl rfl (fun c13 => ?_) (fun c13 => ?_)
        · refine z_s I (s_iinc (pc' := 93) (lv' := [(4, vI (w32 (x4 + 1))), (0, vR ad o), (1, vI x1), (2, vI x2), (3, vI x3)]) (n := 4) rfl D_Md_seat_2.2.2.2.2 (by decide) rfl rfl) ?_
          refine z_s I (s_goto (tgt := 46) D_Md_seat_3.1.1.1.1 rfl) ?_
          refine z_s I (s_lv (lv' := [(0, vR ad o), (1, vI x1), (2, vI x2), (3, vI x3), (4, vI (w32 (x4 + 1)))]) [1, 2, 3, 4, 0] rfl) ?_
          exact z_end (fun g => hin1_1 _ g (inR_w32 _))
        · refine z_s I (s_aload_n (pc' := 66) 0 rfl D_Md_seat_2.1.1.1.2 rfl rfl) ?_
          refine z_getR (pc' := 69) (eI := o + 5) I g_Md_28 ao rfl (by omega) D_Md_seat_2.1.1.2.1 rfl ?_
          have k14 : ok τ (0, 8) (o + 5) := r_Md_row hw ao (by omega)
          refine z_s I (s_iload (pc' := 71) 4 rfl D_Md_seat_2.1.1.2.2 rfl) ?_
          refine z_iald (pc' := 72) (nI := 8) I k14 ax4 rfl D_Md_seat_2.1.2.1.1 rfl (fun c15 f16 => ?_)
          refine z_s I (s_iload_n (pc' := 73) 2 rfl D_Md_seat_2.1.2.1.2 rfl rfl) ?_
          refine z_icmp_ne (tgt := 90) (pc' := 76) I f16 ax2 D_Md_seat_2.1.2.2.1 rfl rfl (fun c17 => ?_) (fun c17 => ?_)
          · refine z_s I (s_iinc (pc' := 93) (lv' := [(4, vI (w32 (x4 + 1))), (0, vR ad o), (1, vI x1), (2, vI x2), (3, vI x3)]) (n := 4) rfl D_Md_seat_2.2.2.2.2 (by decide) rfl rfl) ?_
            refine z_s I (s_goto (tgt := 46) D_Md_seat_3.1.1.1.1 rfl) ?_
            refine z_s I (s_lv (lv' := [(0, vR ad o), (1, vI x1), (2, vI x2), (3, vI x3), (4, vI (w32 (x4 + 1)))]) [1, 2, 3, 4, 0] rfl) ?_
            exact z_end (fun g => hin1_1 _ g (inR_w32 _))
          · refine z_s I (s_aload_n (pc' := 77) 0 rfl D_Md_seat_2.1.2.2.2 rfl rfl) ?_
            refine z_getR (pc' := 80) (eI := o + 6) I g_Md_31 ao rfl (by omega) D_Md_seat_2.2.1.1.1 rfl ?_
            have k18 : ok τ (0, 8) (o + 6) := r_Md_place hw ao (by omega)
            refine z_s I (s_iload (pc' := 82) 4 rfl D_Md_seat_2.2.1.1.2 rfl) ?_
            refine z_iald (pc' := 83) (nI := 8) I k18 ax4 rfl D_Md_seat_2.2.1.2.1 rfl (fun c19 f20 => ?_)
            refine z_s I (s_iload_n (pc' := 84) 3 rfl D_Md_seat_2.2.1.2.2 rfl rfl) ?_
            refine z_icmp_ne (tgt := 90) (pc' := 87) I f20 ax3 D_Md_seat_2.2.2.1.1 rfl rfl (fun c21 => ?_) (fun c21 => ?_)
            · refine z_s I (s_iinc (pc' := 93) (lv' := [(4, vI (w32 (x4 + 1))), (0, vR ad o), (1, vI x1), (2, vI x2), (3, vI x3)]) (n := 4) rfl D_Md_seat_2.2.2.2.2 (by decide) rfl rfl) ?_
              refine z_s I (s_goto (tgt := 46) D_Md_seat_3.1.1.1.1 rfl) ?_
              refine z_s I (s_lv (lv' := [(0, vR ad o), (1, vI x1), (2, vI x2), (3, vI x3), (4, vI (w32 (x4 + 1)))]) [1, 2, 3, 4, 0] rfl) ?_
              exact z_end (fun g => hin1_1 _ g (inR_w32 _))
            · refine z_s I (s_bipush (pc' := 89) D_Md_seat_2.2.2.1.2 rfl rfl) ?_
              exact z_ret (w := some (vI (-3))) I (fun g => gk1 _ _ g (inR_c (x := (-3)) rfl)) ⟨_, rfl⟩ D_Md_seat_2.2.2.2.1 rfl
  have main : Z Y (m_Md_seat o x1 x2 x3 h) G0 h 0 [(0, vR ad o), (1, vI x1), (2, vI x2), (3, vI x3)] [] := by
    unfold m_Md_seat
    refine z_s I (s_aload_n (pc' := 1) 0 rfl D_Md_seat_0.1.1.1.1 rfl rfl) ?_
    refine z_s I (s_iload_n (pc' := 2) 1 rfl D_Md_seat_0.1.1.1.2 rfl rfl) ?_
    refine z_b1 (fun r24 q23 => ?_)
    refine z_callV (pc' := 5) I mv_Md_isOne ml_Md_126 (fun ad => [vI x1]) ⟨Nat.le_of_ble_eq_true rfl, Nat.le_of_ble_eq_true rfl⟩ ao (fun hh => c_Md_isOne hw ao ax1 hh q23) rfl rfl (Nat.le_of_ble_eq_true rfl) D_Md_seat_0.1.1.2.1 rfl (fun f22 => ?_)
    refine z_if_ne (tgt := 10) (pc' := 8) I (b01.R f22) D_Md_seat_0.1.1.2.2 rfl rfl (fun c25 => ?_) (fun c25 => ?_)
    · refine z_s I (s_iload_n (pc' := 11) 2 rfl D_Md_seat_0.1.2.2.1 rfl rfl) ?_
      refine z_s I (s_i2l (pc' := 12) ax2 D_Md_seat_0.1.2.2.2 rfl) ?_
      refine z_ldc2 (pc' := 15) (x := (-1)) I cl_Md_165 (by decide +kernel) D_Md_seat_0.2.1.1.1 rfl ?_
      refine z_ldc2 (pc' := 18) (x := 9) I cl_Md_170 (by decide +kernel) D_Md_seat_0.2.1.1.2 rfl ?_
      refine z_b1 (fun r28 q27 => ?_)
      refine z_callS (pc' := 21) I mv_Md_in ml_Md_119 (fun ad => [vL x2, vL (-1), vL 9]) ⟨Nat.le_of_ble_eq_true rfl, Nat.le_of_ble_eq_true rfl⟩ (fun hh => c_Md_in hw (ax2).L (inL_c (x := (-1)) rfl) (inL_c (x := 9) rfl) hh q27) rfl rfl (Nat.le_of_ble_eq_true rfl) D_Md_seat_0.2.1.2.1 rfl (fun f26 => ?_)
      refine z_if_eq (tgt := 40) (pc' := 24) I (b01.R f26) D_Md_seat_0.2.1.2.2 rfl rfl (fun c29 => ?_) (fun c29 => ?_)
      · refine z_s I (s_bipush (pc' := 42) D_Md_seat_1.1.2.1.1 rfl rfl) ?_
        exact z_ret (w := some (vI (-2))) I (fun g => gk0 _ _ g (inR_c (x := (-2)) rfl)) ⟨_, rfl⟩ D_Md_seat_1.1.2.1.2 rfl
      · refine z_s I (s_iload_n (pc' := 25) 2 rfl D_Md_seat_0.2.2.1.1 rfl rfl) ?_
        refine z_if_lt (tgt := 43) (pc' := 28) I ax2 D_Md_seat_0.2.2.1.2 rfl rfl (fun c30 => ?_) (fun c30 => ?_)
        · refine z_s I (s_iconst (pc' := 44) D_Md_seat_1.1.2.2.1 rfl) ?_
          refine z_s I (s_istore (pc' := 46) (lv' := [(4, vI 0), (0, vR ad o), (1, vI x1), (2, vI x2), (3, vI x3)]) D_Md_seat_1.1.2.2.2 (by decide) rfl rfl) ?_
          refine z_s I (s_lv (lv' := [(0, vR ad o), (1, vI x1), (2, vI x2), (3, vI x3), (4, vI 0)]) [1, 2, 3, 4, 0] rfl) ?_
          exact L46 _ _ (b01.R bz0)
        · refine z_s I (s_iload_n (pc' := 29) 3 rfl D_Md_seat_0.2.2.2.1 rfl rfl) ?_
          refine z_s I (s_i2l (pc' := 30) ax3 D_Md_seat_0.2.2.2.2 rfl) ?_
          refine z_s I (s_lconst (pc' := 31) (x := 0) D_Md_seat_1.1.1.1.1 rfl rfl) ?_
          refine z_ldc2 (pc' := 34) (x := 9) I cl_Md_170 (by decide +kernel) D_Md_seat_1.1.1.1.2 rfl ?_
          refine z_b1 (fun r33 q32 => ?_)
          refine z_callS (pc' := 37) I mv_Md_in ml_Md_119 (fun ad => [vL x3, vL 0, vL 9]) ⟨Nat.le_of_ble_eq_true rfl, Nat.le_of_ble_eq_true rfl⟩ (fun hh => c_Md_in hw (ax3).L (inL_c (x := 0) rfl) (inL_c (x := 9) rfl) hh q32) rfl rfl (Nat.le_of_ble_eq_true rfl) D_Md_seat_1.1.1.2.1 rfl (fun f31 => ?_)
          refine z_if_ne (tgt := 43) (pc' := 40) I (b01.R f31) D_Md_seat_1.1.1.2.2 rfl rfl (fun c34 => ?_) (fun c34 => ?_)
          · refine z_s I (s_iconst (pc' := 44) D_Md_seat_1.1.2.2.1 rfl) ?_
            refine z_s I (s_istore (pc' := 46) (lv' := [(4, vI 0), (0, vR ad o), (1, vI x1), (2, vI x2), (3, vI x3)]) D_Md_seat_1.1.2.2.2 (by decide) rfl rfl) ?_
            refine z_s I (s_lv (lv' := [(0, vR ad o), (1, vI x1), (2, vI x2), (3, vI x3), (4, vI 0)]) [1, 2, 3, 4, 0] rfl) ?_
            exact L46 _ _ (b01.R bz0)
          · refine z_s I (s_bipush (pc' := 42) D_Md_seat_1.1.2.1.1 rfl rfl) ?_
            exact z_ret (w := some (vI (-2))) I (fun g => gk0 _ _ g (inR_c (x := (-2)) rfl)) ⟨_, rfl⟩ D_Md_seat_1.1.2.1.2 rfl
    · refine z_s I (s_iconst (pc' := 9) D_Md_seat_0.1.2.1.1 rfl) ?_
      exact z_ret (w := some (vI (-1))) I (fun g => gk0 _ _ g (inR_c (x := (-1)) rfl)) ⟨_, rfl⟩ D_Md_seat_0.1.2.1.2 rfl
  exact main _ hF (by rw [hG0])
set_option maxHeartbeats 4000000 in
set_option maxRecDepth 20000 in
theorem c_Md_here {l : Launch} {τ : TP} {o : Int} {h : HP} {r : Int} (hw : wf τ) (ao : ok τ (4, 10) o) (hh : hr τ h) (hF : m_Md_here o h = some r) : Ctr l y_Md_here k_Md_here 1 (Option.some FieldType.int) 0 0 τ (fun ad => [vR ad o]) h (some (vI r)) h (inR r) := by
  refine ctr_of (by decide) hw hh (fun ad => Nat.le_of_ble_eq_true rfl) (fun ad K Y I hK => ?_)
  obtain ⟨G0, hG0⟩ : ∃ G : Int → Prop, G = fun x => x = r := ⟨_, rfl⟩
  have gk0 : ∀ (x : Int), G0 x → inR x → K (some (vI x)) h := fun x g q => by
    rw [hG0] at g
    cases g
    exact hK q
  have main : Z Y (m_Md_here o h) G0 h 0 [(0, vR ad o)] [] := by
    unfold m_Md_here
    refine z_s I (s_aload_n (pc' := 1) 0 rfl D_Md_here_0.1.1.1 rfl rfl) ?_
    refine z_getI (pc' := 4) (jI := 23) I g_Md_172 ao rfl rfl D_Md_here_0.1.1.2.1 rfl (fun f1 => ?_)
    refine z_s I (s_aload_n (pc' := 5) 0 rfl D_Md_here_0.1.1.2.2 rfl rfl) ?_
    refine z_getI (pc' := 8) (jI := 18) I g_Md_175 ao rfl rfl D_Md_here_0.1.2.1 rfl (fun f2 => ?_)
    refine z_icmp_ge (tgt := 23) (pc' := 11) I f1 f2 D_Md_here_0.1.2.2.1 rfl rfl (fun c3 => ?_) (fun c3 => ?_)
    · refine z_s I (s_iconst (pc' := 24) D_Md_here_0.2.2.2.1 rfl) ?_
      exact z_ret (w := some (vI (-1))) I (fun g => gk0 _ g (inR_c (x := (-1)) rfl)) ⟨_, rfl⟩ D_Md_here_0.2.2.2.2 rfl
    · refine z_s I (s_aload_n (pc' := 12) 0 rfl D_Md_here_0.1.2.2.2 rfl rfl) ?_
      refine z_getR (pc' := 15) (eI := o + 14) I g_Md_55 ao rfl (by omega) D_Md_here_0.2.1.1 rfl ?_
      have k4 : ok τ (0, 60) (o + 14) := r_Md_text hw ao (by omega)
      refine z_s I (s_aload_n (pc' := 16) 0 rfl D_Md_here_0.2.1.2.1 rfl rfl) ?_
      refine z_getI (pc' := 19) (jI := 23) I g_Md_172 ao rfl rfl D_Md_here_0.2.1.2.2 rfl (fun f5 => ?_)
      refine z_iald (pc' := 20) (nI := 60) I k4 f5 rfl D_Md_here_0.2.2.1.1 rfl (fun c6 f7 => ?_)
      refine z_s I (s_goto (tgt := 24) D_Md_here_0.2.2.1.2 rfl) ?_
      exact z_ret (w := some (vI (h (o + 14) (h o 23)))) I (fun g => gk0 _ g f7) ⟨_, rfl⟩ D_Md_here_0.2.2.2.2 rfl
  exact main _ hF (by rw [hG0])
