set_option maxHeartbeats 4000000 in
set_option maxRecDepth 20000 in
theorem c_Md_isNear {l : Launch} {τ : TP} {o : Int} {x1 : Int} {x2 : Int} {x3 : Int} {h : HP} {r : Int} (hw : wf τ) (ao : ok τ (4, 10) o) (ax1 : inR x1) (ax2 : inR x2) (ax3 : inR x3) (hh : hr τ h) (hF : m_Md_isNear o x1 x2 x3 h = some r) : Ctr l y_Md_isNear k_Md_isNear 4 (Option.some FieldType.boolean) 1 21 τ (fun ad => [vR ad o, vI x1, vI x2, vI x3]) h (some (vI r)) h (b01 r) := by
  refine ctr_of (by decide) hw hh (fun ad => Nat.le_of_ble_eq_true rfl) (fun ad K Y I hK => ?_)
  obtain ⟨G0, hG0⟩ : ∃ G : Int → Prop, G = fun x => x = r := ⟨_, rfl⟩
  have gk0 : ∀ (x : Int), G0 x → b01 x → K (some (vI x)) h := fun x g q => by
    rw [hG0] at g
    cases g
    exact hK q
  have main : Z Y (m_Md_isNear o x1 x2 x3 h) G0 h 0 [(0, vR ad o), (1, vI x1), (2, vI x2), (3, vI x3)] [] := by
    unfold m_Md_isNear
    refine z_s I (s_aload_n (pc' := 1) 0 rfl D_Md_isNear_0.1.1.1.1 rfl rfl) ?_
    refine z_getR (pc' := 4) (eI := o + 5) I g_Md_28 ao rfl (by omega) D_Md_isNear_0.1.1.1.2 rfl ?_
    have k1 : ok τ (0, 8) (o + 5) := r_Md_row hw ao (by omega)
    refine z_s I (s_iload_n (pc' := 5) 1 rfl D_Md_isNear_0.1.1.2.1 rfl rfl) ?_
    refine z_iald (pc' := 6) (nI := 8) I k1 ax1 rfl D_Md_isNear_0.1.1.2.2 rfl (fun c2 f3 => ?_)
    refine z_if_lt (tgt := 62) (pc' := 9) I f3 D_Md_isNear_0.1.2.1.1 rfl rfl (fun c4 => ?_) (fun c4 => ?_)
    · refine z_s I (s_iconst (pc' := 63) D_Md_isNear_2.2.2.1 rfl) ?_
      exact z_ret (w := some (vI 0)) I (fun g => gk0 _ g bz0) ⟨_, bz0, rfl⟩ D_Md_isNear_2.2.2.2 rfl
    · refine z_s I (s_aload_n (pc' := 10) 0 rfl D_Md_isNear_0.1.2.1.2 rfl rfl) ?_
      refine z_getR (pc' := 13) (eI := o + 5) I g_Md_28 ao rfl (by omega) D_Md_isNear_0.1.2.2.1 rfl ?_
      have k5 : ok τ (0, 8) (o + 5) := r_Md_row hw ao (by omega)
      refine z_s I (s_iload_n (pc' := 14) 2 rfl D_Md_isNear_0.1.2.2.2 rfl rfl) ?_
      refine z_iald (pc' := 15) (nI := 8) I k5 ax2 rfl D_Md_isNear_0.2.1.1.1 rfl (fun c6 f7 => ?_)
      refine z_if_lt (tgt := 62) (pc' := 18) I f7 D_Md_isNear_0.2.1.1.2 rfl rfl (fun c8 => ?_) (fun c8 => ?_)
      · refine z_s I (s_iconst (pc' := 63) D_Md_isNear_2.2.2.1 rfl) ?_
        exact z_ret (w := some (vI 0)) I (fun g => gk0 _ g bz0) ⟨_, bz0, rfl⟩ D_Md_isNear_2.2.2.2 rfl
      · refine z_s I (s_aload_n (pc' := 19) 0 rfl D_Md_isNear_0.2.1.2.1 rfl rfl) ?_
        refine z_getR (pc' := 22) (eI := o + 5) I g_Md_28 ao rfl (by omega) D_Md_isNear_0.2.1.2.2 rfl ?_
        have k9 : ok τ (0, 8) (o + 5) := r_Md_row hw ao (by omega)
        refine z_s I (s_iload_n (pc' := 23) 1 rfl D_Md_isNear_0.2.2.1.1 rfl rfl) ?_
        refine z_iald (pc' := 24) (nI := 8) I k9 ax1 rfl D_Md_isNear_0.2.2.1.2 rfl (fun c10 f11 => ?_)
        refine z_s I (s_aload_n (pc' := 25) 0 rfl D_Md_isNear_0.2.2.2.1 rfl rfl) ?_
        refine z_getR (pc' := 28) (eI := o + 5) I g_Md_28 ao rfl (by omega) D_Md_isNear_0.2.2.2.2 rfl ?_
        have k12 : ok τ (0, 8) (o + 5) := r_Md_row hw ao (by omega)
        refine z_s I (s_iload_n (pc' := 29) 2 rfl D_Md_isNear_1.1.1.1.1 rfl rfl) ?_
        refine z_iald (pc' := 30) (nI := 8) I k12 ax2 rfl D_Md_isNear_1.1.1.1.2 rfl (fun c13 f14 => ?_)
        refine z_s I (s_isub (pc' := 31) D_Md_isNear_1.1.1.2.1 rfl) ?_
        refine z_mabs (pc' := 34) I (inR_w32 _) ml_Md_275 (Nat.le_of_ble_eq_true rfl) (Nat.le_of_ble_eq_true rfl) D_Md_isNear_1.1.1.2.2 rfl ?_
        refine z_bI (by split; exact (inR_w32 _); exact inR_w32 _) (fun v16 e17 f18 => ?_)
        refine z_s I (s_iload_n (pc' := 35) 3 rfl D_Md_isNear_1.1.2.1.1 rfl rfl) ?_
        refine z_icmp_gt (tgt := 62) (pc' := 38) I f18 ax3 D_Md_isNear_1.1.2.1.2 rfl rfl (fun c19 => ?_) (fun c19 => ?_)
        · refine z_s I (s_iconst (pc' := 63) D_Md_isNear_2.2.2.1 rfl) ?_
          exact z_ret (w := some (vI 0)) I (fun g => gk0 _ g bz0) ⟨_, bz0, rfl⟩ D_Md_isNear_2.2.2.2 rfl
        · refine z_s I (s_aload_n (pc' := 39) 0 rfl D_Md_isNear_1.1.2.2.1 rfl rfl) ?_
          refine z_getR (pc' := 42) (eI := o + 6) I g_Md_31 ao rfl (by omega) D_Md_isNear_1.1.2.2.2 rfl ?_
          have k20 : ok τ (0, 8) (o + 6) := r_Md_place hw ao (by omega)
          refine z_s I (s_iload_n (pc' := 43) 1 rfl D_Md_isNear_1.2.1.1.1 rfl rfl) ?_
          refine z_iald (pc' := 44) (nI := 8) I k20 ax1 rfl D_Md_isNear_1.2.1.1.2 rfl (fun c21 f22 => ?_)
          refine z_s I (s_aload_n (pc' := 45) 0 rfl D_Md_isNear_1.2.1.2.1 rfl rfl) ?_
          refine z_getR (pc' := 48) (eI := o + 6) I g_Md_31 ao rfl (by omega) D_Md_isNear_1.2.1.2.2 rfl ?_
          have k23 : ok τ (0, 8) (o + 6) := r_Md_place hw ao (by omega)
          refine z_s I (s_iload_n (pc' := 49) 2 rfl D_Md_isNear_1.2.2.1.1 rfl rfl) ?_
          refine z_iald (pc' := 50) (nI := 8) I k23 ax2 rfl D_Md_isNear_1.2.2.1.2 rfl (fun c24 f25 => ?_)
          refine z_s I (s_isub (pc' := 51) D_Md_isNear_1.2.2.2.1 rfl) ?_
          refine z_mabs (pc' := 54) I (inR_w32 _) ml_Md_275 (Nat.le_of_ble_eq_true rfl) (Nat.le_of_ble_eq_true rfl) D_Md_isNear_1.2.2.2.2 rfl ?_
          refine z_bI (by split; exact (inR_w32 _); exact inR_w32 _) (fun v27 e28 f29 => ?_)
          refine z_s I (s_iload_n (pc' := 55) 3 rfl D_Md_isNear_2.1.1 rfl rfl) ?_
          refine z_icmp_gt (tgt := 62) (pc' := 58) I f29 ax3 D_Md_isNear_2.1.2.1 rfl rfl (fun c30 => ?_) (fun c30 => ?_)
          · refine z_s I (s_iconst (pc' := 63) D_Md_isNear_2.2.2.1 rfl) ?_
            exact z_ret (w := some (vI 0)) I (fun g => gk0 _ g bz0) ⟨_, bz0, rfl⟩ D_Md_isNear_2.2.2.2 rfl
          · refine z_s I (s_iconst (pc' := 59) D_Md_isNear_2.1.2.2 rfl) ?_
            refine z_s I (s_goto (tgt := 63) D_Md_isNear_2.2.1 rfl) ?_
            exact z_ret (w := some (vI 1)) I (fun g => gk0 _ g bz1) ⟨_, bz1, rfl⟩ D_Md_isNear_2.2.2.2 rfl
  exact main _ hF (by rw [hG0])
set_option maxHeartbeats 4000000 in
set_option maxRecDepth 20000 in
theorem c_Md_puts {l : Launch} {τ : TP} {o : Int} {x1 : Int} {x2 : Int} {l3 : Int} {l5 : Int} {h : HP} {h' : HP} (hw : wf τ) (ao : ok τ (4, 10) o) (ax1 : inR x1) (ax2 : inR x2) (al3 : inL l3) (al5 : inL l5) (hh : hr τ h) (hF : m_Md_puts o x1 x2 l3 l5 h = some h') : Ctr l y_Md_puts k_Md_puts 8 (Option.none : Option FieldType) 1 44 τ (fun ad => [vR ad o, vI x1, vI x2, vL l3, vL l5]) h none h' (True) := by
  refine ctr_of (by decide) hw hh (fun ad => Nat.le_of_ble_eq_true rfl) (fun ad K Y I hK => ?_)
  obtain ⟨G0, hG0⟩ : ∃ G : HP → Prop, G = fun x => x = h' := ⟨_, rfl⟩
  have gk0 : ∀ (x : HP), G0 x → K none x := fun x g => by
    rw [hG0] at g
    cases g
    exact hK trivial
  have J108 : ∀ (x7 : Int) (ax7 : inR x7) (h : HP), Z Y (m_Md_puts_J108 o x1 x2 l3 l5 x7 h) G0 h 108 [(0, vR ad o), (1, vI x1), (2, vI x2), (3, vL l3), (5, vL l5), (7, vI x7)] [] := by
    intro x7 ax7 h
    unfold m_Md_puts_J108
    refine z_s I (s_aload_n (pc' := 109) 0 rfl D_Md_puts_3.2.2.2.2 rfl rfl) ?_
    refine z_getR (pc' := 112) (eI := o + 18) I g_Md_68 ao rfl (by omega) D_Md_puts_4.1.1.1.1 rfl ?_
    have k1 : ok τ (0, 28) (o + 18) := r_Md_pairX hw ao (by omega)
    refine z_s I (s_iload (pc' := 114) 5 rfl D_Md_puts_4.1.1.1.2 rfl) ?_
    refine z_s I (s_iload_n (pc' := 115) 1 rfl D_Md_puts_4.1.1.2.1 rfl rfl) ?_
    refine z_iast (pc' := 116) (nI := 28) I k1 ax7 ax1 rfl D_Md_puts_4.1.1.2.2 rfl (fun c2 => ?_)
    refine z_bH (fun h3 e4 => ?_)
    refine z_s I (s_aload_n (pc' := 117) 0 rfl D_Md_puts_4.1.2.1.1 rfl rfl) ?_
    refine z_getR (pc' := 120) (eI := o + 19) I g_Md_71 ao rfl (by omega) D_Md_puts_4.1.2.1.2 rfl ?_
    have k5 : ok τ (0, 28) (o + 19) := r_Md_pairY hw ao (by omega)
    refine z_s I (s_iload (pc' := 122) 5 rfl D_Md_puts_4.1.2.2.1 rfl) ?_
    refine z_s I (s_iload_n (pc' := 123) 2 rfl D_Md_puts_4.1.2.2.2 rfl rfl) ?_
    refine z_iast (pc' := 124) (nI := 28) I k5 ax7 ax2 rfl D_Md_puts_4.2.1.1.1 rfl (fun c6 => ?_)
    refine z_bH (fun h7 e8 => ?_)
    refine z_s I (s_aload_n (pc' := 125) 0 rfl D_Md_puts_4.2.1.1.2 rfl rfl) ?_
    refine z_getR (pc' := 128) (eI := o + 20) I g_Md_74 ao rfl (by omega) D_Md_puts_4.2.1.2.1 rfl ?_
    have k9 : ok τ (1, 28) (o + 20) := r_Md_above hw ao (by omega)
    refine z_s I (s_iload (pc' := 130) 5 rfl D_Md_puts_4.2.1.2.2 rfl) ?_
    refine z_s I (s_lload_n (pc' := 131) 3 rfl D_Md_puts_4.2.2.1.1 rfl rfl) ?_
    refine z_last (pc' := 132) (nI := 28) I k9 ax7 al3 rfl D_Md_puts_4.2.2.1.2 rfl (fun c10 => ?_)
    refine z_bH (fun h11 e12 => ?_)
    refine z_s I (s_aload_n (pc' := 133) 0 rfl D_Md_puts_4.2.2.2.1 rfl rfl) ?_
    refine z_getR (pc' := 136) (eI := o + 21) I g_Md_77 ao rfl (by omega) D_Md_puts_4.2.2.2.2 rfl ?_
    have k13 : ok τ (1, 28) (o + 21) := r_Md_under hw ao (by omega)
    refine z_s I (s_iload (pc' := 138) 5 rfl D_Md_puts_5.1.1.1 rfl) ?_
    refine z_s I (s_lload (pc' := 140) 4 rfl D_Md_puts_5.1.1.2 rfl) ?_
    refine z_last (pc' := 141) (nI := 28) I k13 ax7 al5 rfl D_Md_puts_5.1.2.1 rfl (fun c14 => ?_)
    refine z_bH (fun h15 e16 => ?_)
    refine z_s I (s_aload_n (pc' := 142) 0 rfl D_Md_puts_5.1.2.2.1 rfl rfl) ?_
    refine z_s I (s_dup (pc' := 143) rfl D_Md_puts_5.1.2.2.2 rfl) ?_
    refine z_getI (pc' := 146) (jI := 29) I g_Md_280 ao rfl rfl D_Md_puts_5.2.1.1 rfl (fun f17 => ?_)
    refine z_s I (s_iconst (pc' := 147) D_Md_puts_5.2.1.2 rfl) ?_
    refine z_s I (s_iadd (pc' := 148) D_Md_puts_5.2.2.1 rfl) ?_
    refine z_putI (pc' := 151) (jI := 29) I p_Md_280 ao rfl rfl (inR_w32 _) D_Md_puts_5.2.2.2.1 rfl ?_
    refine z_bH (fun h18 e19 => ?_)
    exact z_ret (w := none) I (fun g => gk0 _ g) rfl D_Md_puts_5.2.2.2.2 rfl
  have L6 : ∀ (s : Int × HP), (inR (s.1)) → Z Y (m_Md_puts_L6 o x1 x2 l3 l5 s) G0 (s.2) 6 [(0, vR ad o), (1, vI x1), (2, vI x2), (3, vL l3), (5, vL l5), (7, vI (s.1))] [] := by
    intro s hs
    refine z_loop (G := G0) (hO := fun s : Int × HP => s.2) (lO := fun s : Int × HP => [(0, vR ad o), (1, vI x1), (2, vI x2), (3, vL l3), (5, vL l5), (7, vI (s.1))]) (Φ := fun s : Int × HP => inR (s.1)) (fun G1 hin1_1 hout1 s hs => ?_) FUEL s hs
    obtain ⟨x7, h⟩ := s
    have ax7 := hs
    have gk1 := fun (x : HP) (g : G1 (.inr (x))) => gk0 x (hout1 _ g)
    show Z Y (m_Md_puts_L6b o x1 x2 l3 l5 x7 h) G1 h 6 [(0, vR ad o), (1, vI x1), (2, vI x2), (3, vL l3), (5, vL l5), (7, vI x7)] []
    unfold m_Md_puts_L6b
    refine z_s I (s_iload (pc' := 8) 5 rfl D_Md_puts_0.1.1.2.2 rfl) ?_
    refine z_if_le (tgt := 108) (pc' := 11) I ax7 D_Md_puts_0.1.2.1.1 rfl rfl (fun c20 => ?_) (fun c20 => ?_)
    · refine z_map _ (fun x g => hout1 x g) ?_
      exact J108 _ ax7 _
    · refine z_s I (s_lload_n (pc' := 12) 3 rfl D_Md_puts_0.1.2.1.2 rfl rfl) ?_
      refine z_s I (s_lload (pc' := 14) 4 rfl D_Md_puts_0.1.2.2.1 rfl) ?_
      refine z_s I (s_aload_n (pc' := 15) 0 rfl D_Md_puts_0.1.2.2.2 rfl rfl) ?_
      refine z_getR (pc' := 18) (eI := o + 20) I g_Md_74 ao rfl (by omega) D_Md_puts_0.2.1.1.1 rfl ?_
      have k21 : ok τ (1, 28) (o + 20) := r_Md_above hw ao (by omega)
      refine z_s I (s_iload (pc' := 20) 5 rfl D_Md_puts_0.2.1.1.2 rfl) ?_
      refine z_s I (s_iconst (pc' := 21) D_Md_puts_0.2.1.2.1 rfl) ?_
      refine z_s I (s_isub (pc' := 22) D_Md_puts_0.2.1.2.2 rfl) ?_
      refine z_lald (pc' := 23) (nI := 28) I k21 (inR_w32 _) rfl D_Md_puts_0.2.2.1.1 rfl (fun c22 f23 => ?_)
      refine z_s I (s_aload_n (pc' := 24) 0 rfl D_Md_puts_0.2.2.1.2 rfl rfl) ?_
      refine z_getR (pc' := 27) (eI := o + 21) I g_Md_77 ao rfl (by omega) D_Md_puts_0.2.2.2.1 rfl ?_
      have k24 : ok τ (1, 28) (o + 21) := r_Md_under hw ao (by omega)
      refine z_s I (s_iload (pc' := 29) 5 rfl D_Md_puts_0.2.2.2.2 rfl) ?_
      refine z_s I (s_iconst (pc' := 30) D_Md_puts_1.1.1.1.1 rfl) ?_
      refine z_s I (s_isub (pc' := 31) D_Md_puts_1.1.1.1.2 rfl) ?_
      refine z_lald (pc' := 32) (nI := 28) I k24 (inR_w32 _) rfl D_Md_puts_1.1.1.2.1 rfl (fun c25 f26 => ?_)
      refine z_b1 (fun r29 q28 => ?_)
      refine z_callS (pc' := 35) I mv_Md_compares ml_Md_271 (fun ad => [vL l3, vL l5, vL (h (o + 20) (w32 (x7 - 1))), vL (h (o + 21) (w32 (x7 - 1)))]) ⟨Nat.le_of_ble_eq_true rfl, Nat.le_of_ble_eq_true rfl⟩ (fun hh => c_Md_compares hw al3 al5 f23 f26 hh q28) rfl rfl (Nat.le_of_ble_eq_true rfl) D_Md_puts_1.1.1.2.2 rfl (fun f27 => ?_)
      refine z_if_ge (tgt := 108) (pc' := 38) I f27 D_Md_puts_1.1.2.1.1 rfl rfl (fun c30 => ?_) (fun c30 => ?_)
      · refine z_map _ (fun x g => hout1 x g) ?_
        exact J108 _ ax7 _
      · refine z_s I (s_aload_n (pc' := 39) 0 rfl D_Md_puts_1.1.2.1.2 rfl rfl) ?_
        refine z_getR (pc' := 42) (eI := o + 18) I g_Md_68 ao rfl (by omega) D_Md_puts_1.1.2.2.1 rfl ?_
        have k31 : ok τ (0, 28) (o + 18) := r_Md_pairX hw ao (by omega)
        refine z_s I (s_iload (pc' := 44) 5 rfl D_Md_puts_1.1.2.2.2 rfl) ?_
        refine z_s I (s_aload_n (pc' := 45) 0 rfl D_Md_puts_1.2.1.1.1 rfl rfl) ?_
        refine z_getR (pc' := 48) (eI := o + 18) I g_Md_68 ao rfl (by omega) D_Md_puts_1.2.1.1.2 rfl ?_
        have k32 : ok τ (0, 28) (o + 18) := r_Md_pairX hw ao (by omega)
        refine z_s I (s_iload (pc' := 50) 5 rfl D_Md_puts_1.2.1.2.1 rfl) ?_
        refine z_s I (s_iconst (pc' := 51) D_Md_puts_1.2.1.2.2 rfl) ?_
        refine z_s I (s_isub (pc' := 52) D_Md_puts_1.2.2.1.1 rfl) ?_
        refine z_iald (pc' := 53) (nI := 28) I k32 (inR_w32 _) rfl D_Md_puts_1.2.2.1.2 rfl (fun c33 f34 => ?_)
        refine z_iast (pc' := 54) (nI := 28) I k31 ax7 f34 rfl D_Md_puts_1.2.2.2.1 rfl (fun c35 => ?_)
        refine z_bH (fun h36 e37 => ?_)
        refine z_s I (s_aload_n (pc' := 55) 0 rfl D_Md_puts_1.2.2.2.2 rfl rfl) ?_
        refine z_getR (pc' := 58) (eI := o + 19) I g_Md_71 ao rfl (by omega) D_Md_puts_2.1.1.1.1 rfl ?_
        have k38 : ok τ (0, 28) (o + 19) := r_Md_pairY hw ao (by omega)
        refine z_s I (s_iload (pc' := 60) 5 rfl D_Md_puts_2.1.1.1.2 rfl) ?_
        refine z_s I (s_aload_n (pc' := 61) 0 rfl D_Md_puts_2.1.1.2.1 rfl rfl) ?_
        refine z_getR (pc' := 64) (eI := o + 19) I g_Md_71 ao rfl (by omega) D_Md_puts_2.1.1.2.2 rfl ?_
        have k39 : ok τ (0, 28) (o + 19) := r_Md_pairY hw ao (by omega)
        refine z_s I (s_iload (pc' := 66) 5 rfl D_Md_puts_2.1.2.1.1 rfl) ?_
        refine z_s I (s_iconst (pc' := 67) D_Md_puts_2.1.2.1.2 rfl) ?_
        refine z_s I (s_isub (pc' := 68) D_Md_puts_2.1.2.2.1 rfl) ?_
        refine z_iald (pc' := 69) (nI := 28) I k39 (inR_w32 _) rfl D_Md_puts_2.1.2.2.2 rfl (fun c40 f41 => ?_)
        refine z_iast (pc' := 70) (nI := 28) I k38 ax7 f41 rfl D_Md_puts_2.2.1.1.1 rfl (fun c42 => ?_)
        refine z_bH (fun h43 e44 => ?_)
        refine z_s I (s_aload_n (pc' := 71) 0 rfl D_Md_puts_2.2.1.1.2 rfl rfl) ?_
        refine z_getR (pc' := 74) (eI := o + 20) I g_Md_74 ao rfl (by omega) D_Md_puts_2.2.1.2.1 rfl ?_
        have k45 : ok τ (1, 28) (o + 20) := r_Md_above hw ao (by omega)
        refine z_s I (s_iload (pc' := 76) 5 rfl D_Md_puts_2.2.1.2.2 rfl) ?_
        refine z_s I (s_aload_n (pc' := 77) 0 rfl D_Md_puts_2.2.2.1.1 rfl rfl) ?_
        refine z_getR (pc' := 80) (eI := o + 20) I g_Md_74 ao rfl (by omega) D_Md_puts_2.2.2.1.2 rfl ?_
        have k46 : ok τ (1, 28) (o + 20) := r_Md_above hw ao (by omega)
        refine z_s I (s_iload (pc' := 82) 5 rfl D_Md_puts_2.2.2.2.1 rfl) ?_
        refine z_s I (s_iconst (pc' := 83) D_Md_puts_2.2.2.2.2 rfl) ?_
        refine z_s I (s_isub (pc' := 84) D_Md_puts_3.1.1.1.1 rfl) ?_
        refine z_lald (pc' := 85) (nI := 28) I k46 (inR_w32 _) rfl D_Md_puts_3.1.1.1.2 rfl (fun c47 f48 => ?_)
        refine z_last (pc' := 86) (nI := 28) I k45 ax7 f48 rfl D_Md_puts_3.1.1.2.1 rfl (fun c49 => ?_)
        refine z_bH (fun h50 e51 => ?_)
        refine z_s I (s_aload_n (pc' := 87) 0 rfl D_Md_puts_3.1.1.2.2 rfl rfl) ?_
        refine z_getR (pc' := 90) (eI := o + 21) I g_Md_77 ao rfl (by omega) D_Md_puts_3.1.2.1.1 rfl ?_
        have k52 : ok τ (1, 28) (o + 21) := r_Md_under hw ao (by omega)
        refine z_s I (s_iload (pc' := 92) 5 rfl D_Md_puts_3.1.2.1.2 rfl) ?_
        refine z_s I (s_aload_n (pc' := 93) 0 rfl D_Md_puts_3.1.2.2.1 rfl rfl) ?_
        refine z_getR (pc' := 96) (eI := o + 21) I g_Md_77 ao rfl (by omega) D_Md_puts_3.1.2.2.2 rfl ?_
        have k53 : ok τ (1, 28) (o + 21) := r_Md_under hw ao (by omega)
        refine z_s I (s_iload (pc' := 98) 5 rfl D_Md_puts_3.2.1.1.1 rfl) ?_
        refine z_s I (s_iconst (pc' := 99) D_Md_puts_3.2.1.1.2 rfl) ?_
        refine z_s I (s_isub (pc' := 100) D_Md_puts_3.2.1.2.1 rfl) ?_
        refine z_lald (pc' := 101) (nI := 28) I k53 (inR_w32 _) rfl D_Md_puts_3.2.1.2.2 rfl (fun c54 f55 => ?_)
        refine z_last (pc' := 102) (nI := 28) I k52 ax7 f55 rfl D_Md_puts_3.2.2.1.1 rfl (fun c56 => ?_)
        refine z_bH (fun h57 e58 => ?_)
        refine z_s I (s_iinc (pc' := 105) (lv' := [(7, vI (w32 (x7 + (-1)))), (0, vR ad o), (1, vI x1), (2, vI x2), (3, vL l3), (5, vL l5)]) (n := 5) rfl D_Md_puts_3.2.2.1.2 (by decide) rfl rfl) ?_
        refine z_s I (s_goto (tgt := 6) D_Md_puts_3.2.2.2.1 rfl) ?_
        refine z_s I (s_lv (lv' := [(0, vR ad o), (1, vI x1), (2, vI x2), (3, vL l3), (5, vL l5), (7, vI (w32 (x7 + (-1))))]) [1, 2, 3, 4, 5, 0] rfl) ?_
        exact z_end (fun g => hin1_1 _ g (inR_w32 _))
  have main : Z Y (m_Md_puts o x1 x2 l3 l5 h) G0 h 0 [(0, vR ad o), (1, vI x1), (2, vI x2), (3, vL l3), (5, vL l5)] [] := by
    unfold m_Md_puts
    refine z_s I (s_aload_n (pc' := 1) 0 rfl D_Md_puts_0.1.1.1.1 rfl rfl) ?_
    refine z_getI (pc' := 4) (jI := 29) I g_Md_280 ao rfl rfl D_Md_puts_0.1.1.1.2 rfl (fun f59 => ?_)
    refine z_bI f59 (fun v60 e61 f62 => ?_)
    refine z_s I (s_istore (pc' := 6) (lv' := [(7, vI v60), (0, vR ad o), (1, vI x1), (2, vI x2), (3, vL l3), (5, vL l5)]) D_Md_puts_0.1.1.2.1 (by decide) rfl rfl) ?_
    refine z_s I (s_lv (lv' := [(0, vR ad o), (1, vI x1), (2, vI x2), (3, vL l3), (5, vL l5), (7, vI v60)]) [1, 2, 3, 4, 5, 0] rfl) ?_
    exact L6 _ f62
  exact main _ hF (by rw [hG0])
set_option maxHeartbeats 4000000 in
set_option maxRecDepth 20000 in
theorem c_Md_putsPair {l : Launch} {τ : TP} {o : Int} {x1 : Int} {x2 : Int} {h : HP} {h' : HP} (hw : wf τ) (ao : ok τ (4, 10) o) (ax1 : inR x1) (ax2 : inR x2) (hh : hr τ h) (hF : m_Md_putsPair o x1 x2 h = some h') : Ctr l y_Md_putsPair k_Md_putsPair 9 (Option.none : Option FieldType) 6 168 τ (fun ad => [vR ad o, vI x1, vI x2]) h none h' (True) := by
  refine ctr_of (by decide) hw hh (fun ad => Nat.le_of_ble_eq_true rfl) (fun ad K Y I hK => ?_)
  obtain ⟨G0, hG0⟩ : ∃ G : HP → Prop, G = fun x => x = h' := ⟨_, rfl⟩
  have gk0 : ∀ (x : HP), G0 x → K none x := fun x g => by
    rw [hG0] at g
    cases g
    exact hK trivial
  have J69 : ∀ (l3 : Int) (al3 : inL l3) (l5 : Int) (al5 : inL l5) (h : HP), Z Y (m_Md_putsPair_J69 o x1 x2 l3 l5 h) G0 h 69 [(0, vR ad o), (1, vI x1), (2, vI x2), (3, vL l3), (5, vL l5)] [] := by
    intro l3 al3 l5 al5 h
    unfold m_Md_putsPair_J69
    refine z_s I (s_aload_n (pc' := 70) 0 rfl D_Md_putsPair_2.2.1.1.2 rfl rfl) ?_
    refine z_s I (s_iload_n (pc' := 71) 1 rfl D_Md_putsPair_2.2.1.2.1 rfl rfl) ?_
    refine z_s I (s_iload_n (pc' := 72) 2 rfl D_Md_putsPair_2.2.1.2.2 rfl rfl) ?_
    refine z_s I (s_lload_n (pc' := 73) 3 rfl D_Md_putsPair_2.2.2.1.1 rfl rfl) ?_
    refine z_s I (s_lload (pc' := 75) 4 rfl D_Md_putsPair_2.2.2.1.2 rfl) ?_
    refine z_b1 (fun h3 q2 => ?_)
    refine z_callV (pc' := 78) I mv_Md_puts ml_Md_283 (fun ad => [vI x1, vI x2, vL l3, vL l5]) ⟨Nat.le_of_ble_eq_true rfl, Nat.le_of_ble_eq_true rfl⟩ ao (fun hh => c_Md_puts hw ao ax1 ax2 al3 al5 hh q2) rfl rfl (Nat.le_of_ble_eq_true rfl) D_Md_putsPair_2.2.2.2.1 rfl (fun f1 => ?_)
    exact z_ret (w := none) I (fun g => gk0 _ g) rfl D_Md_putsPair_2.2.2.2.2 rfl
  have main : Z Y (m_Md_putsPair o x1 x2 h) G0 h 0 [(0, vR ad o), (1, vI x1), (2, vI x2)] [] := by
    unfold m_Md_putsPair
    refine z_s I (s_aload_n (pc' := 1) 0 rfl D_Md_putsPair_0.1.1.1.1 rfl rfl) ?_
    refine z_s I (s_iload_n (pc' := 2) 1 rfl D_Md_putsPair_0.1.1.1.2 rfl rfl) ?_
    refine z_s I (s_iload_n (pc' := 3) 2 rfl D_Md_putsPair_0.1.1.2.1 rfl rfl) ?_
    refine z_s I (s_aload_n (pc' := 4) 0 rfl D_Md_putsPair_0.1.1.2.2 rfl rfl) ?_
    refine z_getR (pc' := 7) (eI := o + 7) I g_Md_34 ao rfl (by omega) D_Md_putsPair_0.1.2.1.1 rfl ?_
    have k4 : ok τ (0, 6) (o + 7) := r_Md_used hw ao (by omega)
    refine z_s I (s_iconst (pc' := 8) D_Md_putsPair_0.1.2.1.2 rfl) ?_
    refine z_g (c := 0 ≤ (0 : Int) ∧ (0 : Int) < 6) (by decide) ?_
    refine z_iald (pc' := 9) (nI := 6) I k4 (b01.R bz0) rfl D_Md_putsPair_0.1.2.2.1 rfl (fun c5 f6 => ?_)
    refine z_s I (s_iconst (pc' := 10) D_Md_putsPair_0.1.2.2.2 rfl) ?_
    refine z_b2 (fun r9 h10 q8 => ?_)
    refine z_callV (pc' := 13) I mv_Md_asMuch ml_Md_261 (fun ad => [vI x1, vI x2, vI (h (o + 7) 0), vI (-1)]) ⟨Nat.le_of_ble_eq_true rfl, Nat.le_of_ble_eq_true rfl⟩ ao (fun hh => c_Md_asMuch hw ao ax1 ax2 f6 (inR_c (x := (-1)) rfl) hh q8) rfl rfl (Nat.le_of_ble_eq_true rfl) D_Md_putsPair_0.2.1.1.1 rfl (fun f7 => ?_)
    refine z_s I (s_lstore_n (pc' := 14) (lv' := [(3, vL r9), (0, vR ad o), (1, vI x1), (2, vI x2)]) D_Md_putsPair_0.2.1.1.2 rfl (by decide) rfl rfl) ?_
    refine z_s I (s_aload_n (pc' := 15) 1 rfl D_Md_putsPair_0.2.1.2.1 rfl rfl) ?_
    refine z_getL (pc' := 18) (jI := 28) I g_Md_248 ao rfl rfl D_Md_putsPair_0.2.1.2.2 rfl (fun f11 => ?_)
    refine z_bL f11 (fun v12 e13 f14 => ?_)
    refine z_s I (s_lstore (pc' := 20) (lv' := [(5, vL v12), (3, vL r9), (0, vR ad o), (1, vI x1), (2, vI x2)]) D_Md_putsPair_0.2.2.1.1 (by decide) rfl rfl) ?_
    refine z_s I (s_aload_n (pc' := 21) 2 rfl D_Md_putsPair_0.2.2.1.2 rfl rfl) ?_
    refine z_getR (pc' := 24) (eI := o + 7) I g_Md_34 ao rfl (by omega) D_Md_putsPair_0.2.2.2.1 rfl ?_
    have k15 : ok τ (0, 6) (o + 7) := r_Md_used hw ao (by omega)
    refine z_s I (s_iconst (pc' := 25) D_Md_putsPair_0.2.2.2.2 rfl) ?_
    refine z_g (c := 0 ≤ (0 : Int) ∧ (0 : Int) < 6) (by decide) ?_
    refine z_iald (pc' := 26) (nI := 6) I k15 (b01.R bz0) rfl D_Md_putsPair_1.1.1.1.1 rfl (fun c16 f17 => ?_)
    refine z_s I (s_iconst (pc' := 27) D_Md_putsPair_1.1.1.1.2 rfl) ?_
    refine z_icmp_le (tgt := 69) (pc' := 30) I f17 (b01.R bz1) D_Md_putsPair_1.1.1.2.1 rfl rfl (fun c18 => ?_) (fun c18 => ?_)
    · refine z_s I (s_lv (lv' := [(0, vR ad o), (1, vI x1), (2, vI x2), (3, vL r9), (5, vL v12)]) [2, 3, 4, 1, 0] rfl) ?_
      exact J69 _ f7 _ f14 _
    · refine z_s I (s_aload_n (pc' := 31) 2 rfl D_Md_putsPair_1.1.1.2.2 rfl rfl) ?_
      refine z_s I (s_iload_n (pc' := 32) 4 rfl D_Md_putsPair_1.1.2.1.1 rfl rfl) ?_
      refine z_s I (s_iload_n (pc' := 33) 3 rfl D_Md_putsPair_1.1.2.1.2 rfl rfl) ?_
      refine z_s I (s_aload_n (pc' := 34) 2 rfl D_Md_putsPair_1.1.2.2.1 rfl rfl) ?_
      refine z_getR (pc' := 37) (eI := o + 7) I g_Md_34 ao rfl (by omega) D_Md_putsPair_1.1.2.2.2 rfl ?_
      have k19 : ok τ (0, 6) (o + 7) := r_Md_used hw ao (by omega)
      refine z_s I (s_iconst (pc' := 38) D_Md_putsPair_1.2.1.1.1 rfl) ?_
      refine z_g (c := 0 ≤ (0 : Int) ∧ (0 : Int) < 6) (by decide) ?_
      refine z_iald (pc' := 39) (nI := 6) I k19 (b01.R bz0) rfl D_Md_putsPair_1.2.1.1.2 rfl (fun c20 f21 => ?_)
      refine z_s I (s_iconst (pc' := 40) D_Md_putsPair_1.2.1.2.1 rfl) ?_
      refine z_b2 (fun r24 h25 q23 => ?_)
      refine z_callV (pc' := 43) I mv_Md_asMuch ml_Md_261 (fun ad => [vI x2, vI x1, vI (h10 (o + 7) 0), vI (-1)]) ⟨Nat.le_of_ble_eq_true rfl, Nat.le_of_ble_eq_true rfl⟩ ao (fun hh => c_Md_asMuch hw ao ax2 ax1 f21 (inR_c (x := (-1)) rfl) hh q23) rfl rfl (Nat.le_of_ble_eq_true rfl) D_Md_putsPair_1.2.1.2.2 rfl (fun f22 => ?_)
      refine z_s I (s_lstore (pc' := 45) (lv' := [(7, vL r24), (5, vL v12), (3, vL r9), (0, vR ad o), (1, vI x1), (2, vI x2)]) D_Md_putsPair_1.2.2.1.1 (by decide) rfl rfl) ?_
      refine z_s I (s_lload (pc' := 47) 0 rfl D_Md_putsPair_1.2.2.1.2 rfl) ?_
      refine z_s I (s_aload_n (pc' := 48) 3 rfl D_Md_putsPair_1.2.2.2.1 rfl rfl) ?_
      refine z_getL (pc' := 51) (jI := 28) I g_Md_248 ao rfl rfl D_Md_putsPair_1.2.2.2.2 rfl (fun f26 => ?_)
      refine z_s I (s_lload_n (pc' := 52) 2 rfl D_Md_putsPair_2.1.1.1.1 rfl rfl) ?_
      refine z_s I (s_lload (pc' := 54) 1 rfl D_Md_putsPair_2.1.1.1.2 rfl) ?_
      refine z_b1 (fun r29 q28 => ?_)
      refine z_callS (pc' := 57) I mv_Md_compares ml_Md_271 (fun ad => [vL r24, vL (h25 o 28), vL r9, vL v12]) ⟨Nat.le_of_ble_eq_true rfl, Nat.le_of_ble_eq_true rfl⟩ (fun hh => c_Md_compares hw f22 f26 f7 f14 hh q28) rfl rfl (Nat.le_of_ble_eq_true rfl) D_Md_putsPair_2.1.1.2.1 rfl (fun f27 => ?_)
      refine z_if_ge (tgt := 69) (pc' := 60) I f27 D_Md_putsPair_2.1.1.2.2 rfl rfl (fun c30 => ?_) (fun c30 => ?_)
      · refine z_s I (s_lv (lv' := [(0, vR ad o), (1, vI x1), (2, vI x2), (3, vL r9), (5, vL v12)]) [3, 4, 5, 2, 1] rfl) ?_
        exact J69 _ f7 _ f14 _
      · refine z_s I (s_lload (pc' := 62) 0 rfl D_Md_putsPair_2.1.2.1.1 rfl) ?_
        refine z_s I (s_lstore_n (pc' := 63) (lv' := [(3, vL r24), (7, vL r24), (5, vL v12), (0, vR ad o), (1, vI x1), (2, vI x2)]) D_Md_putsPair_2.1.2.1.2 rfl (by decide) rfl rfl) ?_
        refine z_s I (s_aload_n (pc' := 64) 3 rfl D_Md_putsPair_2.1.2.2.1 rfl rfl) ?_
        refine z_getL (pc' := 67) (jI := 28) I g_Md_248 ao rfl rfl D_Md_putsPair_2.1.2.2.2 rfl (fun f31 => ?_)
        refine z_bL f31 (fun v32 e33 f34 => ?_)
        refine z_s I (s_lstore (pc' := 69) (lv' := [(5, vL v32), (3, vL r24), (7, vL r24), (0, vR ad o), (1, vI x1), (2, vI x2)]) D_Md_putsPair_2.2.1.1.1 (by decide) rfl rfl) ?_
        refine z_s I (s_lv (lv' := [(0, vR ad o), (1, vI x1), (2, vI x2), (3, vL r24), (5, vL v32)]) [3, 4, 5, 1, 0] rfl) ?_
        exact J69 _ f22 _ f34 _
  exact main _ hF (by rw [hG0])
set_option maxHeartbeats 4000000 in
set_option maxRecDepth 20000 in
theorem c_Md_isLow {l : Launch} {τ : TP} {o : Int} {x1 : Int} {x2 : Int} {x3 : Int} {h : HP} {r : Int} (hw : wf τ) (ao : ok τ (4, 10) o) (ax1 : inR x1) (ax2 : inR x2) (ax3 : inR x3) (hh : hr τ h) (hF : m_Md_isLow o x1 x2 x3 h = some r) : Ctr l y_Md_isLow k_Md_isLow 4 (Option.some FieldType.boolean) 1 44 τ (fun ad => [vR ad o, vI x1, vI x2, vI x3]) h (some (vI r)) h (b01 r) := by
  refine ctr_of (by decide) hw hh (fun ad => Nat.le_of_ble_eq_true rfl) (fun ad K Y I hK => ?_)
  obtain ⟨G0, hG0⟩ : ∃ G : Int → Prop, G = fun x => x = r := ⟨_, rfl⟩
  have gk0 : ∀ (x : Int), G0 x → b01 x → K (some (vI x)) h := fun x g q => by
    rw [hG0] at g
    cases g
    exact hK q
  have main : Z Y (m_Md_isLow o x1 x2 x3 h) G0 h 0 [(0, vR ad o), (1, vI x1), (2, vI x2), (3, vI x3)] [] := by
    unfold m_Md_isLow
    refine z_s I (s_aload_n (pc' := 1) 0 rfl D_Md_isLow_0.1.1.1.1 rfl rfl) ?_
    refine z_getR (pc' := 4) (eI := o + 20) I g_Md_74 ao rfl (by omega) D_Md_isLow_0.1.1.1.2 rfl ?_
    have k1 : ok τ (1, 28) (o + 20) := r_Md_above hw ao (by omega)
    refine z_s I (s_iload_n (pc' := 5) 1 rfl D_Md_isLow_0.1.1.2.1 rfl rfl) ?_
    refine z_lald (pc' := 6) (nI := 28) I k1 ax1 rfl D_Md_isLow_0.1.1.2.2 rfl (fun c2 f3 => ?_)
    refine z_s I (s_aload_n (pc' := 7) 0 rfl D_Md_isLow_0.1.2.1.1 rfl rfl) ?_
    refine z_getR (pc' := 10) (eI := o + 21) I g_Md_77 ao rfl (by omega) D_Md_isLow_0.1.2.1.2 rfl ?_
    have k4 : ok τ (1, 28) (o + 21) := r_Md_under hw ao (by omega)
    refine z_s I (s_iload_n (pc' := 11) 1 rfl D_Md_isLow_0.1.2.2.1 rfl rfl) ?_
    refine z_lald (pc' := 12) (nI := 28) I k4 ax1 rfl D_Md_isLow_0.1.2.2.2 rfl (fun c5 f6 => ?_)
    refine z_s I (s_aload_n (pc' := 13) 0 rfl D_Md_isLow_0.2.1.1.1 rfl rfl) ?_
    refine z_getR (pc' := 16) (eI := o + 7) I g_Md_34 ao rfl (by omega) D_Md_isLow_0.2.1.1.2 rfl ?_
    have k7 : ok τ (0, 6) (o + 7) := r_Md_used hw ao (by omega)
    refine z_s I (s_iconst (pc' := 17) D_Md_isLow_0.2.1.2.1 rfl) ?_
    refine z_g (c := 0 ≤ (2 : Int) ∧ (2 : Int) < 6) (by decide) ?_
    refine z_iald (pc' := 18) (nI := 6) I k7 (inR_c (x := 2) rfl) rfl D_Md_isLow_0.2.1.2.2 rfl (fun c8 f9 => ?_)
    refine z_s I (s_i2l (pc' := 19) f9 D_Md_isLow_0.2.2.1.1 rfl) ?_
    refine z_s I (s_iload_n (pc' := 20) 3 rfl D_Md_isLow_0.2.2.1.2 rfl rfl) ?_
    refine z_s I (s_i2l (pc' := 21) ax3 D_Md_isLow_0.2.2.2.1 rfl) ?_
    refine z_s I (s_lmul (pc' := 22) D_Md_isLow_0.2.2.2.2 rfl) ?_
    refine z_ldc2 (pc' := 25) (x := 1000) I cl_Md_287 (by decide +kernel) D_Md_isLow_1.1.1.1 rfl ?_
    refine z_s I (s_iload_n (pc' := 26) 2 rfl D_Md_isLow_1.1.1.2 rfl rfl) ?_
    refine z_s I (s_i2l (pc' := 27) ax2 D_Md_isLow_1.1.2.1 rfl) ?_
    refine z_s I (s_lmul (pc' := 28) D_Md_isLow_1.1.2.2.1 rfl) ?_
    refine z_b1 (fun r12 q11 => ?_)
    refine z_callS (pc' := 31) I mv_Md_compares ml_Md_271 (fun ad => [vL (h (o + 20) x1), vL (h (o + 21) x1), vL (w64 ((h (o + 7) 2) * x3)), vL (w64 (1000 * x2))]) ⟨Nat.le_of_ble_eq_true rfl, Nat.le_of_ble_eq_true rfl⟩ (fun hh => c_Md_compares hw f3 f6 (inL_w64 _) (inL_w64 _) hh q11) rfl rfl (Nat.le_of_ble_eq_true rfl) D_Md_isLow_1.1.2.2.2 rfl (fun f10 => ?_)
    refine z_if_gt (tgt := 38) (pc' := 34) I f10 D_Md_isLow_1.2.1.1 rfl rfl (fun c13 => ?_) (fun c13 => ?_)
    · refine z_s I (s_iconst (pc' := 39) D_Md_isLow_1.2.2.2.1 rfl) ?_
      exact z_ret (w := some (vI 0)) I (fun g => gk0 _ g bz0) ⟨_, bz0, rfl⟩ D_Md_isLow_1.2.2.2.2 rfl
    · refine z_s I (s_iconst (pc' := 35) D_Md_isLow_1.2.1.2 rfl) ?_
      refine z_s I (s_goto (tgt := 39) D_Md_isLow_1.2.2.1 rfl) ?_
      exact z_ret (w := some (vI 1)) I (fun g => gk0 _ g bz1) ⟨_, bz1, rfl⟩ D_Md_isLow_1.2.2.2.2 rfl
  exact main _ hF (by rw [hG0])
set_option maxHeartbeats 4000000 in
set_option maxRecDepth 20000 in
theorem c_Md_orders {l : Launch} {τ : TP} {o : Int} {h : HP} {h' : HP} (hw : wf τ) (ao : ok τ (4, 10) o) (hh : hr τ h) (hF : m_Md_orders o h = some h') : Ctr l y_Md_orders k_Md_orders 3 (Option.none : Option FieldType) 7 196 τ (fun ad => [vR ad o]) h none h' (True) := by
  refine ctr_of (by decide) hw hh (fun ad => Nat.le_of_ble_eq_true rfl) (fun ad K Y I hK => ?_)
  obtain ⟨G0, hG0⟩ : ∃ G : HP → Prop, G = fun x => x = h' := ⟨_, rfl⟩
  have gk0 : ∀ (x : HP), G0 x → K none x := fun x g => by
    rw [hG0] at g
    cases g
    exact hK trivial
  have L170 : ∀ (s : Int × Int × HP), (b01 (s.1) ∧ inR (s.2.1)) → Z Y (m_Md_orders_L170 o s) G0 (s.2.2) 170 [(0, vR ad o), (1, vI (s.1)), (2, vI (s.2.1))] [] := by
    intro s hs
    refine z_loop (G := G0) (hO := fun s : Int × Int × HP => s.2.2) (lO := fun s : Int × Int × HP => [(0, vR ad o), (1, vI (s.1)), (2, vI (s.2.1))]) (Φ := fun s : Int × Int × HP => b01 (s.1) ∧ inR (s.2.1)) (fun G1 hin1_1 hout1 s hs => ?_) FUEL s hs
    obtain ⟨x1, x2, h⟩ := s
    obtain ⟨ax1, ax2⟩ := hs
    have gk1 := fun (x : HP) (g : G1 (.inr (x))) => gk0 x (hout1 _ g)
    show Z Y (m_Md_orders_L170b o x1 x2 h) G1 h 170 [(0, vR ad o), (1, vI x1), (2, vI x2)] []
    unfold m_Md_orders_L170b
    refine z_s I (s_iload_n (pc' := 171) 2 rfl D_Md_orders_6.1.2.2.1 rfl rfl) ?_
    refine z_if_lt (tgt := 202) (pc' := 174) I ax2 D_Md_orders_6.1.2.2.2 rfl rfl (fun c1 => ?_) (fun c1 => ?_)
    · exact z_ret (w := none) I (fun g => gk1 _ g) rfl D_Md_orders_7.2.2.2.2 rfl
    · refine z_s I (s_iload_n (pc' := 175) 1 rfl D_Md_orders_6.2.1.1.1 rfl rfl) ?_
      refine z_s I (s_aload_n (pc' := 176) 0 rfl D_Md_orders_6.2.1.1.2 rfl rfl) ?_
      refine z_s I (s_iload_n (pc' := 177) 2 rfl D_Md_orders_6.2.1.2.1 rfl rfl) ?_
      refine z_s I (s_aload_n (pc' := 178) 0 rfl D_Md_orders_6.2.1.2.2 rfl rfl) ?_
      refine z_getI (pc' := 181) (jI := 29) I g_Md_280 ao rfl rfl D_Md_orders_6.2.2.1.1 rfl (fun f2 => ?_)
      refine z_s I (s_iload_n (pc' := 182) 2 rfl D_Md_orders_6.2.2.1.2 rfl rfl) ?_
      refine z_s I (s_iconst (pc' := 183) D_Md_orders_6.2.2.2.1 rfl) ?_
      refine z_s I (s_iadd (pc' := 184) D_Md_orders_6.2.2.2.2 rfl) ?_
      refine z_b1 (fun r5 q4 => ?_)
      refine z_callV (pc' := 187) I mv_Md_isLow ml_Md_297 (fun ad => [vI x2, vI (h o 29), vI (w32 (x2 + 1))]) ⟨Nat.le_of_ble_eq_true rfl, Nat.le_of_ble_eq_true rfl⟩ ao (fun hh => c_Md_isLow hw ao ax2 f2 (inR_w32 _) hh q4) rfl rfl (Nat.le_of_ble_eq_true rfl) D_Md_orders_7.1.1.1 rfl (fun f3 => ?_)
      refine z_s I (s_ior (pc' := 188) D_Md_orders_7.1.1.2 rfl) ?_
      refine z_bZ (b_iOr ax1 f3) (fun v6 e7 f8 => ?_)
      refine z_s I (s_istore_n (pc' := 189) (lv' := [(1, vI v6), (0, vR ad o), (2, vI x2)]) D_Md_orders_7.1.2.1 rfl (by decide) rfl rfl) ?_
      refine z_s I (s_aload_n (pc' := 190) 1 rfl D_Md_orders_7.1.2.2.1 rfl rfl) ?_
      refine z_getR (pc' := 193) (eI := o + 22) I g_Md_80 ao rfl (by omega) D_Md_orders_7.1.2.2.2 rfl ?_
      have k9 : ok τ (2, 28) (o + 22) := r_Md_isSuspect hw ao (by omega)
      refine z_s I (s_iload_n (pc' := 194) 2 rfl D_Md_orders_7.2.1.1 rfl rfl) ?_
      refine z_s I (s_iload_n (pc' := 195) 0 rfl D_Md_orders_7.2.1.2.1 rfl rfl) ?_
      refine z_bast (pc' := 196) (nI := 28) I k9 ax2 f8 rfl D_Md_orders_7.2.1.2.2 rfl (fun c10 => ?_)
      refine z_bH (fun h11 e12 => ?_)
      refine z_s I (s_iinc (pc' := 199) (lv' := [(2, vI (w32 (x2 + (-1)))), (1, vI v6), (0, vR ad o)]) (n := 2) rfl D_Md_orders_7.2.2.1 (by decide) rfl rfl) ?_
      refine z_s I (s_goto (tgt := 170) D_Md_orders_7.2.2.2.1 rfl) ?_
      refine z_s I (s_lv (lv' := [(0, vR ad o), (1, vI v6), (2, vI (w32 (x2 + (-1))))]) [2, 1, 0] rfl) ?_
      exact z_end (fun g => hin1_1 _ g ⟨f8, (inR_w32 _)⟩)
  have J151 : ∀ (h : HP), Z Y (m_Md_orders_J151 o h) G0 h 151 [(0, vR ad o)] [] := by
    intro h
    unfold m_Md_orders_J151
    refine z_s I (s_aload_n (pc' := 152) 0 rfl D_Md_orders_5.2.1.1.2 rfl rfl) ?_
    refine z_getR (pc' := 155) (eI := o + 7) I g_Md_34 ao rfl (by omega) D_Md_orders_5.2.1.2.1 rfl ?_
    have k13 : ok τ (0, 6) (o + 7) := r_Md_used hw ao (by omega)
    refine z_s I (s_iconst (pc' := 156) D_Md_orders_5.2.1.2.2 rfl) ?_
    refine z_g (c := 0 ≤ (1 : Int) ∧ (1 : Int) < 6) (by decide) ?_
    refine z_iald (pc' := 157) (nI := 6) I k13 (b01.R bz1) rfl D_Md_orders_5.2.2.1.1 rfl (fun c14 f15 => ?_)
    refine z_s I (s_iconst (pc' := 158) D_Md_orders_5.2.2.1.2 rfl) ?_
    refine z_icmp_ne (tgt := 202) (pc' := 161) I f15 (inR_c (x := 3) rfl) D_Md_orders_5.2.2.2.1 rfl rfl (fun c16 => ?_) (fun c16 => ?_)
    · exact z_ret (w := none) I (fun g => gk0 _ g) rfl D_Md_orders_7.2.2.2.2 rfl
    · refine z_s I (s_iconst (pc' := 162) D_Md_orders_5.2.2.2.2 rfl) ?_
      refine z_s I (s_istore_n (pc' := 163) (lv' := [(1, vI 0), (0, vR ad o)]) D_Md_orders_6.1.1.1.1 rfl (by decide) rfl rfl) ?_
      refine z_s I (s_aload_n (pc' := 164) 1 rfl D_Md_orders_6.1.1.1.2 rfl rfl) ?_
      refine z_getI (pc' := 167) (jI := 29) I g_Md_280 ao rfl rfl D_Md_orders_6.1.1.2.1 rfl (fun f17 => ?_)
      refine z_s I (s_iconst (pc' := 168) D_Md_orders_6.1.1.2.2 rfl) ?_
      refine z_s I (s_isub (pc' := 169) D_Md_orders_6.1.2.1.1 rfl) ?_
      refine z_bI (inR_w32 _) (fun v18 e19 f20 => ?_)
      refine z_s I (s_istore_n (pc' := 170) (lv' := [(2, vI v18), (1, vI 0), (0, vR ad o)]) D_Md_orders_6.1.2.1.2 rfl (by decide) rfl rfl) ?_
      refine z_s I (s_lv (lv' := [(0, vR ad o), (1, vI 0), (2, vI v18)]) [2, 1, 0] rfl) ?_
      exact L170 _ ⟨bz0, f20⟩
  have L73 : ∀ (s : Int × Int × HP), (b01 (s.1) ∧ inR (s.2.1)) → Z Y (m_Md_orders_L73 o s) G0 (s.2.2) 73 [(0, vR ad o), (1, vI (s.1)), (2, vI (s.2.1))] [] := by
    intro s hs
    refine z_loop (G := G0) (hO := fun s : Int × Int × HP => s.2.2) (lO := fun s : Int × Int × HP => [(0, vR ad o), (1, vI (s.1)), (2, vI (s.2.1))]) (Φ := fun s : Int × Int × HP => b01 (s.1) ∧ inR (s.2.1)) (fun G1 hin1_1 hout1 s hs => ?_) FUEL s hs
    obtain ⟨x1, x2, h⟩ := s
    obtain ⟨ax1, ax2⟩ := hs
    have gk1 := fun (x : HP) (g : G1 (.inr (x))) => gk0 x (hout1 _ g)
    have J144 : ∀ (x1 : Int) (ax1 : b01 x1) (x2 : Int) (ax2 : inR x2) (s0 : Int) (as0 : ok τ (2, 28) s0) (s1 : Int) (as1 : inR s1) (s2 : Int) (as2 : b01 s2) (h : HP), Z Y (m_Md_orders_J144 o x1 x2 s0 s1 s2 h) G1 h 144 [(0, vR ad o), (1, vI x1), (2, vI x2)] [vI s2, vI s1, vR ad s0] := by
      intro x1 ax1 x2 ax2 s0 as0 s1 as1 s2 as2 h
      unfold m_Md_orders_J144
      refine z_bast (pc' := 145) (nI := 28) I as0 as1 as2 rfl D_Md_orders_5.1.2.2.1 rfl (fun c21 => ?_)
      refine z_bH (fun h22 e23 => ?_)
      refine z_s I (s_iinc (pc' := 148) (lv' := [(2, vI (w32 (x2 + 1))), (0, vR ad o), (1, vI x1)]) (n := 2) rfl D_Md_orders_5.1.2.2.2 (by decide) rfl rfl) ?_
      refine z_s I (s_goto (tgt := 73) D_Md_orders_5.2.1.1.1 rfl) ?_
      refine z_s I (s_lv (lv' := [(0, vR ad o), (1, vI x1), (2, vI (w32 (x2 + 1)))]) [1, 2, 0] rfl) ?_
      exact z_end (fun g => hin1_1 _ g ⟨ax1, (inR_w32 _)⟩)
    show Z Y (m_Md_orders_L73b o x1 x2 h) G1 h 73 [(0, vR ad o), (1, vI x1), (2, vI x2)] []
    unfold m_Md_orders_L73b
    refine z_s I (s_iload_n (pc' := 74) 2 rfl D_Md_orders_2.2.1.2.2 rfl rfl) ?_
    refine z_s I (s_aload_n (pc' := 75) 0 rfl D_Md_orders_2.2.2.1.1 rfl rfl) ?_
    refine z_getI (pc' := 78) (jI := 29) I g_Md_280 ao rfl rfl D_Md_orders_2.2.2.1.2 rfl (fun f24 => ?_)
    refine z_icmp_ge (tgt := 151) (pc' := 81) I ax2 f24 D_Md_orders_2.2.2.2.1 rfl rfl (fun c25 => ?_) (fun c25 => ?_)
    · refine z_map _ (fun x g => hout1 x g) ?_
      refine z_s I (s_lv (lv' := [(0, vR ad o)]) [0] rfl) ?_
      exact J151 _
    · refine z_s I (s_iload_n (pc' := 82) 1 rfl D_Md_orders_2.2.2.2.2 rfl rfl) ?_
      refine z_s I (s_aload_n (pc' := 83) 0 rfl D_Md_orders_3.1.1.1.1 rfl rfl) ?_
      refine z_s I (s_iload_n (pc' := 84) 2 rfl D_Md_orders_3.1.1.1.2 rfl rfl) ?_
      refine z_s I (s_aload_n (pc' := 85) 0 rfl D_Md_orders_3.1.1.2.1 rfl rfl) ?_
      refine z_getI (pc' := 88) (jI := 29) I g_Md_280 ao rfl rfl D_Md_orders_3.1.1.2.2 rfl (fun f26 => ?_)
      refine z_s I (s_iload_n (pc' := 89) 2 rfl D_Md_orders_3.1.2.1.1 rfl rfl) ?_
      refine z_s I (s_isub (pc' := 90) D_Md_orders_3.1.2.1.2 rfl) ?_
      refine z_s I (s_iconst (pc' := 91) D_Md_orders_3.1.2.2.1 rfl) ?_
      refine z_b1 (fun r29 q28 => ?_)
      refine z_callV (pc' := 94) I mv_Md_isLow ml_Md_297 (fun ad => [vI x2, vI (w32 ((h o 29) - x2)), vI 1]) ⟨Nat.le_of_ble_eq_true rfl, Nat.le_of_ble_eq_true rfl⟩ ao (fun hh => c_Md_isLow hw ao ax2 (inR_w32 _) (b01.R bz1) hh q28) rfl rfl (Nat.le_of_ble_eq_true rfl) D_Md_orders_3.1.2.2.2 rfl (fun f27 => ?_)
      refine z_s I (s_iand (pc' := 95) D_Md_orders_3.2.1.1.1 rfl) ?_
      refine z_bZ (b_iAnd ax1 f27) (fun v30 e31 f32 => ?_)
      refine z_s I (s_istore_n (pc' := 96) (lv' := [(1, vI v30), (0, vR ad o), (2, vI x2)]) D_Md_orders_3.2.1.1.2 rfl (by decide) rfl rfl) ?_
      refine z_s I (s_aload_n (pc' := 97) 1 rfl D_Md_orders_3.2.1.2.1 rfl rfl) ?_
      refine z_getR (pc' := 100) (eI := o + 22) I g_Md_80 ao rfl (by omega) D_Md_orders_3.2.1.2.2 rfl ?_
      have k33 : ok τ (2, 28) (o + 22) := r_Md_isSuspect hw ao (by omega)
      refine z_s I (s_iload_n (pc' := 101) 2 rfl D_Md_orders_3.2.2.1.1 rfl rfl) ?_
      refine z_s I (s_aload_n (pc' := 102) 1 rfl D_Md_orders_3.2.2.1.2 rfl rfl) ?_
      refine z_getR (pc' := 105) (eI := o + 7) I g_Md_34 ao rfl (by omega) D_Md_orders_3.2.2.2.1 rfl ?_
      have k34 : ok τ (0, 6) (o + 7) := r_Md_used hw ao (by omega)
      refine z_s I (s_iconst (pc' := 106) D_Md_orders_3.2.2.2.2 rfl) ?_
      refine z_g (c := 0 ≤ (1 : Int) ∧ (1 : Int) < 6) (by decide) ?_
      refine z_iald (pc' := 107) (nI := 6) I k34 (b01.R bz1) rfl D_Md_orders_4.1.1.1.1 rfl (fun c35 f36 => ?_)
      refine z_if_ne (tgt := 120) (pc' := 110) I f36 D_Md_orders_4.1.1.1.2 rfl rfl (fun c37 => ?_) (fun c37 => ?_)
      · refine z_s I (s_aload_n (pc' := 121) 1 rfl D_Md_orders_4.2.1.1.1 rfl rfl) ?_
        refine z_getR (pc' := 124) (eI := o + 7) I g_Md_34 ao rfl (by omega) D_Md_orders_4.2.1.1.2 rfl ?_
        have k38 : ok τ (0, 6) (o + 7) := r_Md_used hw ao (by omega)
        refine z_s I (s_iconst (pc' := 125) D_Md_orders_4.2.1.2.1 rfl) ?_
        refine z_g (c := 0 ≤ (1 : Int) ∧ (1 : Int) < 6) (by decide) ?_
        refine z_iald (pc' := 126) (nI := 6) I k38 (b01.R bz1) rfl D_Md_orders_4.2.1.2.2 rfl (fun c39 f40 => ?_)
        refine z_s I (s_iconst (pc' := 127) D_Md_orders_4.2.2.1.1 rfl) ?_
        refine z_icmp_ne (tgt := 143) (pc' := 130) I f40 (b01.R bz1) D_Md_orders_4.2.2.1.2 rfl rfl (fun c41 => ?_) (fun c41 => ?_)
        · refine z_s I (s_iload_n (pc' := 144) 0 rfl D_Md_orders_5.1.2.1.2 rfl rfl) ?_
          refine z_s I (s_lv (lv' := [(0, vR ad o), (1, vI v30), (2, vI x2)]) [1, 0, 2] rfl) ?_
          exact J144 _ f32 _ ax2 _ k33 _ ax2 _ f32 _
        · refine z_s I (s_aload_n (pc' := 131) 1 rfl D_Md_orders_4.2.2.2.1 rfl rfl) ?_
          refine z_s I (s_iload_n (pc' := 132) 2 rfl D_Md_orders_4.2.2.2.2 rfl rfl) ?_
          refine z_s I (s_aload_n (pc' := 133) 1 rfl D_Md_orders_5.1.1.1.1 rfl rfl) ?_
          refine z_getI (pc' := 136) (jI := 29) I g_Md_280 ao rfl rfl D_Md_orders_5.1.1.1.2 rfl (fun f42 => ?_)
          refine z_s I (s_iconst (pc' := 137) D_Md_orders_5.1.1.2.1 rfl) ?_
          refine z_b1 (fun r45 q44 => ?_)
          refine z_callV (pc' := 140) I mv_Md_isLow ml_Md_297 (fun ad => [vI x2, vI (h o 29), vI 1]) ⟨Nat.le_of_ble_eq_true rfl, Nat.le_of_ble_eq_true rfl⟩ ao (fun hh => c_Md_isLow hw ao ax2 f42 (b01.R bz1) hh q44) rfl rfl (Nat.le_of_ble_eq_true rfl) D_Md_orders_5.1.1.2.2 rfl (fun f43 => ?_)
          refine z_s I (s_goto (tgt := 144) D_Md_orders_5.1.2.1.1 rfl) ?_
          refine z_s I (s_lv (lv' := [(0, vR ad o), (1, vI v30), (2, vI x2)]) [1, 0, 2] rfl) ?_
          exact J144 _ f32 _ ax2 _ k33 _ ax2 _ f43 _
      · refine z_s I (s_aload_n (pc' := 111) 1 rfl D_Md_orders_4.1.1.2.1 rfl rfl) ?_
        refine z_s I (s_iload_n (pc' := 112) 2 rfl D_Md_orders_4.1.1.2.2 rfl rfl) ?_
        refine z_s I (s_iconst (pc' := 113) D_Md_orders_4.1.2.1.1 rfl) ?_
        refine z_s I (s_iconst (pc' := 114) D_Md_orders_4.1.2.1.2 rfl) ?_
        refine z_b1 (fun r48 q47 => ?_)
        refine z_callV (pc' := 117) I mv_Md_isLow ml_Md_297 (fun ad => [vI x2, vI 1, vI 1]) ⟨Nat.le_of_ble_eq_true rfl, Nat.le_of_ble_eq_true rfl⟩ ao (fun hh => c_Md_isLow hw ao ax2 (b01.R bz1) (b01.R bz1) hh q47) rfl rfl (Nat.le_of_ble_eq_true rfl) D_Md_orders_4.1.2.2.1 rfl (fun f46 => ?_)
        refine z_s I (s_goto (tgt := 144) D_Md_orders_4.1.2.2.2 rfl) ?_
        refine z_s I (s_lv (lv' := [(0, vR ad o), (1, vI v30), (2, vI x2)]) [1, 0, 2] rfl) ?_
        exact J144 _ f32 _ ax2 _ k33 _ ax2 _ f46 _
  have L7 : ∀ (s : Int × HP), (inR (s.1)) → Z Y (m_Md_orders_L7 o s) G0 (s.2) 7 [(0, vR ad o), (1, vI (s.1))] [] := by
    intro s hs
    refine z_loop (G := G0) (hO := fun s : Int × HP => s.2) (lO := fun s : Int × HP => [(0, vR ad o), (1, vI (s.1))]) (Φ := fun s : Int × HP => inR (s.1)) (fun G1 hin1_1 hout1 s hs => ?_) FUEL s hs
    obtain ⟨x1, h⟩ := s
    have ax1 := hs
    have gk1 := fun (x : HP) (g : G1 (.inr (x))) => gk0 x (hout1 _ g)
    have L19 : ∀ (x1 : Int) (ax1 : inR x1) (s : Int × HP), (inR (s.1)) → Z Y (m_Md_orders_L19 o x1 s) G1 (s.2) 19 [(0, vR ad o), (1, vI x1), (2, vI (s.1))] [] := by
      intro x1 ax1 s hs
      refine z_loop (G := G1) (hO := fun s : Int × HP => s.2) (lO := fun s : Int × HP => [(0, vR ad o), (1, vI x1), (2, vI (s.1))]) (Φ := fun s : Int × HP => inR (s.1)) (fun G2 hin2_2 hout2 s hs => ?_) FUEL s hs
      obtain ⟨x2, h⟩ := s
      have ax2 := hs
      have hin1_2 := fun (s' : Int × HP) (g : G2 (.inr (.inl s'))) => hin1_1 s' (hout2 _ g)
      have gk2 := fun (x : HP) (g : G2 (.inr (.inr (x)))) => gk1 x (hout2 _ g)
      have J51 : ∀ (x2 : Int) (ax2 : inR x2) (h : HP), Z Y (m_Md_orders_J51 o x1 x2 h) G2 h 51 [(0, vR ad o), (1, vI x1), (2, vI x2)] [] := by
        intro x2 ax2 h
        unfold m_Md_orders_J51
        refine z_s I (s_aload_n (pc' := 52) 0 rfl D_Md_orders_1.2.2.2.2 rfl rfl) ?_
        refine z_s I (s_iload_n (pc' := 53) 1 rfl D_Md_orders_2.1.1.1.1 rfl rfl) ?_
        refine z_s I (s_iload_n (pc' := 54) 2 rfl D_Md_orders_2.1.1.1.2 rfl rfl) ?_
        refine z_b1 (fun h51 q50 => ?_)
        refine z_callV (pc' := 57) I mv_Md_putsPair ml_Md_293 (fun ad => [vI x1, vI x2]) ⟨Nat.le_of_ble_eq_true rfl, Nat.le_of_ble_eq_true rfl⟩ ao (fun hh => c_Md_putsPair hw ao ax1 ax2 hh q50) rfl rfl (Nat.le_of_ble_eq_true rfl) D_Md_orders_2.1.1.2.1 rfl (fun f49 => ?_)
        refine z_s I (s_iinc (pc' := 60) (lv' := [(2, vI (w32 (x2 + 1))), (0, vR ad o), (1, vI x1)]) (n := 2) rfl D_Md_orders_2.1.1.2.2 (by decide) rfl rfl) ?_
        refine z_s I (s_goto (tgt := 19) D_Md_orders_2.1.2.1.1 rfl) ?_
        refine z_s I (s_lv (lv' := [(0, vR ad o), (1, vI x1), (2, vI (w32 (x2 + 1)))]) [1, 2, 0] rfl) ?_
        exact z_end (fun g => hin2_2 _ g (inR_w32 _))
      show Z Y (m_Md_orders_L19b o x1 x2 h) G2 h 19 [(0, vR ad o), (1, vI x1), (2, vI x2)] []
      unfold m_Md_orders_L19b
      refine z_s I (s_iload_n (pc' := 20) 2 rfl D_Md_orders_0.2.2.1.2 rfl rfl) ?_
      refine z_s I (s_aload_n (pc' := 21) 0 rfl D_Md_orders_0.2.2.2.1 rfl rfl) ?_
      refine z_getI (pc' := 24) (jI := 1) I g_Md_123 ao rfl rfl D_Md_orders_0.2.2.2.2 rfl (fun f52 => ?_)
      refine z_icmp_ge (tgt := 63) (pc' := 27) I ax2 f52 D_Md_orders_1.1.1.1.1 rfl rfl (fun c53 => ?_) (fun c53 => ?_)
      · refine z_s I (s_iinc (pc' := 66) (lv' := [(1, vI (w32 (x1 + 1))), (0, vR ad o), (2, vI x2)]) (n := 1) rfl D_Md_orders_2.1.2.1.2 (by decide) rfl rfl) ?_
        refine z_s I (s_goto (tgt := 7) D_Md_orders_2.1.2.2.1 rfl) ?_
        refine z_s I (s_lv (lv' := [(0, vR ad o), (1, vI (w32 (x1 + 1)))]) [1, 0] rfl) ?_
        exact z_end (fun g => hin1_2 _ g (inR_w32 _))
      · refine z_s I (s_aload_n (pc' := 28) 0 rfl D_Md_orders_1.1.1.1.2 rfl rfl) ?_
        refine z_getR (pc' := 31) (eI := o + 7) I g_Md_34 ao rfl (by omega) D_Md_orders_1.1.1.2.1 rfl ?_
        have k54 : ok τ (0, 6) (o + 7) := r_Md_used hw ao (by omega)
        refine z_s I (s_iconst (pc' := 32) D_Md_orders_1.1.1.2.2 rfl) ?_
        refine z_g (c := 0 ≤ (3 : Int) ∧ (3 : Int) < 6) (by decide) ?_
        refine z_iald (pc' := 33) (nI := 6) I k54 (inR_c (x := 3) rfl) rfl D_Md_orders_1.1.2.1.1 rfl (fun c55 f56 => ?_)
        refine z_if_eq (tgt := 51) (pc' := 36) I f56 D_Md_orders_1.1.2.1.2 rfl rfl (fun c57 => ?_) (fun c57 => ?_)
        · exact J51 _ ax2 _
        · refine z_s I (s_aload_n (pc' := 37) 0 rfl D_Md_orders_1.1.2.2.1 rfl rfl) ?_
          refine z_s I (s_iload_n (pc' := 38) 1 rfl D_Md_orders_1.1.2.2.2 rfl rfl) ?_
          refine z_s I (s_iload_n (pc' := 39) 2 rfl D_Md_orders_1.2.1.1.1 rfl rfl) ?_
          refine z_s I (s_aload_n (pc' := 40) 0 rfl D_Md_orders_1.2.1.1.2 rfl rfl) ?_
          refine z_getR (pc' := 43) (eI := o + 7) I g_Md_34 ao rfl (by omega) D_Md_orders_1.2.1.2.1 rfl ?_
          have k58 : ok τ (0, 6) (o + 7) := r_Md_used hw ao (by omega)
          refine z_s I (s_iconst (pc' := 44) D_Md_orders_1.2.1.2.2 rfl) ?_
          refine z_g (c := 0 ≤ (3 : Int) ∧ (3 : Int) < 6) (by decide) ?_
          refine z_iald (pc' := 45) (nI := 6) I k58 (inR_c (x := 3) rfl) rfl D_Md_orders_1.2.2.1.1 rfl (fun c59 f60 => ?_)
          refine z_b1 (fun r63 q62 => ?_)
          refine z_callV (pc' := 48) I mv_Md_isNear ml_Md_289 (fun ad => [vI x1, vI x2, vI (h (o + 7) 3)]) ⟨Nat.le_of_ble_eq_true rfl, Nat.le_of_ble_eq_true rfl⟩ ao (fun hh => c_Md_isNear hw ao ax1 ax2 f60 hh q62) rfl rfl (Nat.le_of_ble_eq_true rfl) D_Md_orders_1.2.2.1.2 rfl (fun f61 => ?_)
          refine z_if_eq (tgt := 57) (pc' := 51) I (b01.R f61) D_Md_orders_1.2.2.2.1 rfl rfl (fun c64 => ?_) (fun c64 => ?_)
          · refine z_s I (s_iinc (pc' := 60) (lv' := [(2, vI (w32 (x2 + 1))), (0, vR ad o), (1, vI x1)]) (n := 2) rfl D_Md_orders_2.1.1.2.2 (by decide) rfl rfl) ?_
            refine z_s I (s_goto (tgt := 19) D_Md_orders_2.1.2.1.1 rfl) ?_
            refine z_s I (s_lv (lv' := [(0, vR ad o), (1, vI x1), (2, vI (w32 (x2 + 1)))]) [1, 2, 0] rfl) ?_
            exact z_end (fun g => hin2_2 _ g (inR_w32 _))
          · exact J51 _ ax2 _
    show Z Y (m_Md_orders_L7b o x1 h) G1 h 7 [(0, vR ad o), (1, vI x1)] []
    unfold m_Md_orders_L7b
    refine z_s I (s_iload_n (pc' := 8) 1 rfl D_Md_orders_0.1.2.1.2 rfl rfl) ?_
    refine z_s I (s_aload_n (pc' := 9) 0 rfl D_Md_orders_0.1.2.2.1 rfl rfl) ?_
    refine z_getI (pc' := 12) (jI := 1) I g_Md_123 ao rfl rfl D_Md_orders_0.1.2.2.2 rfl (fun f65 => ?_)
    refine z_icmp_ge (tgt := 69) (pc' := 15) I ax1 f65 D_Md_orders_0.2.1.1.1 rfl rfl (fun c66 => ?_) (fun c66 => ?_)
    · refine z_s I (s_iconst (pc' := 70) D_Md_orders_2.1.2.2.2 rfl) ?_
      refine z_s I (s_istore_n (pc' := 71) (lv' := [(1, vI 1), (0, vR ad o)]) D_Md_orders_2.2.1.1.1 rfl (by decide) rfl rfl) ?_
      refine z_s I (s_iconst (pc' := 72) D_Md_orders_2.2.1.1.2 rfl) ?_
      refine z_s I (s_istore_n (pc' := 73) (lv' := [(2, vI 0), (1, vI 1), (0, vR ad o)]) D_Md_orders_2.2.1.2.1 rfl (by decide) rfl rfl) ?_
      refine z_map _ (fun x g => hout1 x g) ?_
      refine z_s I (s_lv (lv' := [(0, vR ad o), (1, vI 1), (2, vI 0)]) [2, 1, 0] rfl) ?_
      exact L73 _ ⟨bz1, (b01.R bz0)⟩
    · refine z_s I (s_iload_n (pc' := 16) 1 rfl D_Md_orders_0.2.1.1.2 rfl rfl) ?_
      refine z_s I (s_iconst (pc' := 17) D_Md_orders_0.2.1.2.1 rfl) ?_
      refine z_s I (s_iadd (pc' := 18) D_Md_orders_0.2.1.2.2 rfl) ?_
      refine z_bI (inR_w32 _) (fun v67 e68 f69 => ?_)
      refine z_s I (s_istore_n (pc' := 19) (lv' := [(2, vI v67), (0, vR ad o), (1, vI x1)]) D_Md_orders_0.2.2.1.1 rfl (by decide) rfl rfl) ?_
      refine z_s I (s_lv (lv' := [(0, vR ad o), (1, vI x1), (2, vI v67)]) [1, 2, 0] rfl) ?_
      exact L19 _ ax1 _ f69
  have main : Z Y (m_Md_orders o h) G0 h 0 [(0, vR ad o)] [] := by
    unfold m_Md_orders
    refine z_s I (s_aload_n (pc' := 1) 0 rfl D_Md_orders_0.1.1.1.1 rfl rfl) ?_
    refine z_s I (s_iconst (pc' := 2) D_Md_orders_0.1.1.1.2 rfl) ?_
    refine z_putI (pc' := 5) (jI := 29) I p_Md_280 ao rfl rfl (b01.R bz0) D_Md_orders_0.1.1.2.1 rfl ?_
    refine z_bH (fun h70 e71 => ?_)
    refine z_s I (s_iconst (pc' := 6) D_Md_orders_0.1.1.2.2 rfl) ?_
    refine z_s I (s_istore_n (pc' := 7) (lv' := [(1, vI 0), (0, vR ad o)]) D_Md_orders_0.1.2.1.1 rfl (by decide) rfl rfl) ?_
    refine z_s I (s_lv (lv' := [(0, vR ad o), (1, vI 0)]) [1, 0] rfl) ?_
    exact L7 _ (b01.R bz0)
  exact main _ hF (by rw [hG0])
set_option maxHeartbeats 4000000 in
set_option maxRecDepth 20000 in
theorem c_Md_suspects {l : Launch} {τ : TP} {o : Int} {h : HP} {r : Int} {h' : HP} (hw : wf τ) (ao : ok τ (4, 10) o) (hh : hr τ h) (hF : m_Md_suspects o h = some (r, h')) : Ctr l y_Md_suspects k_Md_suspects 3 (Option.some FieldType.int) 8 218 τ (fun ad => [vR ad o]) h (some (vI r)) h' (inR r) := by
  refine ctr_of (by decide) hw hh (fun ad => Nat.le_of_ble_eq_true rfl) (fun ad K Y I hK => ?_)
  obtain ⟨G0, hG0⟩ : ∃ G : Int × HP → Prop, G = fun x => x = (r, h') := ⟨_, rfl⟩
  have gk0 : ∀ (x : Int) (y : HP), G0 (x, y) → inR x → K (some (vI x)) y := fun x y g q => by
    rw [hG0] at g
    cases g
    exact hK q
  have L8 : ∀ (h : HP) (s : Int × Int), (inR (s.1) ∧ inR (s.2)) → Z Y (m_Md_suspects_L8 o h s) G0 h 8 [(0, vR ad o), (1, vI (s.1)), (2, vI (s.2))] [] := by
    intro h s hs
    refine z_loop (G := G0) (hO := fun s : Int × Int => h) (lO := fun s : Int × Int => [(0, vR ad o), (1, vI (s.1)), (2, vI (s.2))]) (Φ := fun s : Int × Int => inR (s.1) ∧ inR (s.2)) (fun G1 hin1_1 hout1 s hs => ?_) FUEL s hs
    obtain ⟨x1, x2⟩ := s
    obtain ⟨ax1, ax2⟩ := hs
    have gk1 := fun (x : Int) (y : HP) (g : G1 (.inr ((x, y)))) (q : inR x) => gk0 x y (hout1 _ g) q
    show Z Y (m_Md_suspects_L8b o h x1 x2) G1 h 8 [(0, vR ad o), (1, vI x1), (2, vI x2)] []
    unfold m_Md_suspects_L8b
    refine z_s I (s_iload_n (pc' := 9) 2 rfl D_Md_suspects_0.1.2.2.1 rfl rfl) ?_
    refine z_s I (s_aload_n (pc' := 10) 0 rfl D_Md_suspects_0.1.2.2.2 rfl rfl) ?_
    refine z_getI (pc' := 13) (jI := 29) I g_Md_280 ao rfl rfl D_Md_suspects_0.2.1.1.1 rfl (fun f1 => ?_)
    refine z_icmp_ge (tgt := 39) (pc' := 16) I ax2 f1 D_Md_suspects_0.2.1.1.2 rfl rfl (fun c2 => ?_) (fun c2 => ?_)
    · refine z_s I (s_iload_n (pc' := 40) 1 rfl D_Md_suspects_1.2.2.2.1 rfl rfl) ?_
      exact z_ret (w := some (vI x1)) I (fun g => gk1 _ _ g ax1) ⟨_, rfl⟩ D_Md_suspects_1.2.2.2.2 rfl
    · refine z_s I (s_iload_n (pc' := 17) 1 rfl D_Md_suspects_0.2.1.2.1 rfl rfl) ?_
      refine z_s I (s_aload_n (pc' := 18) 0 rfl D_Md_suspects_0.2.1.2.2 rfl rfl) ?_
      refine z_getR (pc' := 21) (eI := o + 22) I g_Md_80 ao rfl (by omega) D_Md_suspects_0.2.2.1.1 rfl ?_
      have k3 : ok τ (2, 28) (o + 22) := r_Md_isSuspect hw ao (by omega)
      refine z_s I (s_iload_n (pc' := 22) 2 rfl D_Md_suspects_0.2.2.1.2 rfl rfl) ?_
      refine z_bald (pc' := 23) (nI := 28) I k3 ax2 rfl D_Md_suspects_0.2.2.2.1 rfl (fun c4 f5 => ?_)
      refine z_if_eq (tgt := 30) (pc' := 26) I (b01.R f5) D_Md_suspects_0.2.2.2.2 rfl rfl (fun c6 => ?_) (fun c6 => ?_)
      · refine z_s I (s_iconst (pc' := 31) D_Md_suspects_1.1.2.1 rfl) ?_
        refine z_s I (s_iadd (pc' := 32) D_Md_suspects_1.1.2.2 rfl) ?_
        refine z_bI (inR_w32 _) (fun v7 e8 f9 => ?_)
        refine z_s I (s_istore_n (pc' := 33) (lv' := [(1, vI v7), (0, vR ad o), (2, vI x2)]) D_Md_suspects_1.2.1.1 rfl (by decide) rfl rfl) ?_
        refine z_s I (s_iinc (pc' := 36) (lv' := [(2, vI (w32 (x2 + 1))), (1, vI v7), (0, vR ad o)]) (n := 2) rfl D_Md_suspects_1.2.1.2 (by decide) rfl rfl) ?_
        refine z_s I (s_goto (tgt := 8) D_Md_suspects_1.2.2.1 rfl) ?_
        refine z_s I (s_lv (lv' := [(0, vR ad o), (1, vI v7), (2, vI (w32 (x2 + 1)))]) [2, 1, 0] rfl) ?_
        exact z_end (fun g => hin1_1 _ g ⟨f9, (inR_w32 _)⟩)
      · refine z_s I (s_iconst (pc' := 27) D_Md_suspects_1.1.1.1 rfl) ?_
        refine z_s I (s_goto (tgt := 31) D_Md_suspects_1.1.1.2 rfl) ?_
        refine z_s I (s_iadd (pc' := 32) D_Md_suspects_1.1.2.2 rfl) ?_
        refine z_bI (inR_w32 _) (fun v10 e11 f12 => ?_)
        refine z_s I (s_istore_n (pc' := 33) (lv' := [(1, vI v10), (0, vR ad o), (2, vI x2)]) D_Md_suspects_1.2.1.1 rfl (by decide) rfl rfl) ?_
        refine z_s I (s_iinc (pc' := 36) (lv' := [(2, vI (w32 (x2 + 1))), (1, vI v10), (0, vR ad o)]) (n := 2) rfl D_Md_suspects_1.2.1.2 (by decide) rfl rfl) ?_
        refine z_s I (s_goto (tgt := 8) D_Md_suspects_1.2.2.1 rfl) ?_
        refine z_s I (s_lv (lv' := [(0, vR ad o), (1, vI v10), (2, vI (w32 (x2 + 1)))]) [2, 1, 0] rfl) ?_
        exact z_end (fun g => hin1_1 _ g ⟨f12, (inR_w32 _)⟩)
  have main : Z Y (m_Md_suspects o h) G0 h 0 [(0, vR ad o)] [] := by
    unfold m_Md_suspects
    refine z_s I (s_aload_n (pc' := 1) 0 rfl D_Md_suspects_0.1.1.1.1 rfl rfl) ?_
    refine z_b1 (fun h15 q14 => ?_)
    refine z_callV (pc' := 4) I mv_Md_orders ml_Md_300 (fun ad => []) ⟨Nat.le_of_ble_eq_true rfl, Nat.le_of_ble_eq_true rfl⟩ ao (fun hh => c_Md_orders hw ao hh q14) rfl rfl (Nat.le_of_ble_eq_true rfl) D_Md_suspects_0.1.1.1.2 rfl (fun f13 => ?_)
    refine z_s I (s_iconst (pc' := 5) D_Md_suspects_0.1.1.2.1 rfl) ?_
    refine z_s I (s_istore_n (pc' := 6) (lv' := [(1, vI 0), (0, vR ad o)]) D_Md_suspects_0.1.1.2.2 rfl (by decide) rfl rfl) ?_
    refine z_s I (s_iconst (pc' := 7) D_Md_suspects_0.1.2.1.1 rfl) ?_
    refine z_s I (s_istore_n (pc' := 8) (lv' := [(2, vI 0), (1, vI 0), (0, vR ad o)]) D_Md_suspects_0.1.2.1.2 rfl (by decide) rfl rfl) ?_
    refine z_s I (s_lv (lv' := [(0, vR ad o), (1, vI 0), (2, vI 0)]) [2, 1, 0] rfl) ?_
    exact L8 _ _ ⟨(b01.R bz0), (b01.R bz0)⟩
  exact main _ hF (by rw [hG0])
set_option maxHeartbeats 4000000 in
set_option maxRecDepth 20000 in
theorem c_Md_near {l : Launch} {τ : TP} {o : Int} {x1 : Int} {h : HP} {r : Int} (hw : wf τ) (ao : ok τ (4, 10) o) (ax1 : inR x1) (hh : hr τ h) (hF : m_Md_near o x1 h = some r) : Ctr l y_Md_near k_Md_near 5 (Option.some FieldType.int) 2 44 τ (fun ad => [vR ad o, vI x1]) h (some (vI r)) h (inR r) := by
  refine ctr_of (by decide) hw hh (fun ad => Nat.le_of_ble_eq_true rfl) (fun ad K Y I hK => ?_)
  obtain ⟨G0, hG0⟩ : ∃ G : Int → Prop, G = fun x => x = r := ⟨_, rfl⟩
  have gk0 : ∀ (x : Int), G0 x → inR x → K (some (vI x)) h := fun x g q => by
    rw [hG0] at g
    cases g
    exact hK q
  have L4 : ∀ (s : Int × Int), (inR (s.1) ∧ inR (s.2)) → Z Y (m_Md_near_L4 o x1 h s) G0 h 4 [(0, vR ad o), (1, vI x1), (2, vI (s.1)), (3, vI (s.2))] [] := by
    intro s hs
    refine z_loop (G := G0) (hO := fun s : Int × Int => h) (lO := fun s : Int × Int => [(0, vR ad o), (1, vI x1), (2, vI (s.1)), (3, vI (s.2))]) (Φ := fun s : Int × Int => inR (s.1) ∧ inR (s.2)) (fun G1 hin1_1 hout1 s hs => ?_) FUEL s hs
    obtain ⟨x2, x3⟩ := s
    obtain ⟨ax2, ax3⟩ := hs
    have gk1 := fun (x : Int) (g : G1 (.inr (x))) (q : inR x) => gk0 x (hout1 _ g) q
    have L17 : ∀ (x3 : Int) (ax3 : inR x3) (s : Int × Int), (inR (s.1) ∧ inR (s.2)) → Z Y (m_Md_near_L17 o x1 x3 h s) G1 h 17 [(0, vR ad o), (1, vI x1), (3, vI x3), (2, vI (s.1)), (4, vI (s.2))] [] := by
      intro x3 ax3 s hs
      refine z_loop (G := G1) (hO := fun s : Int × Int => h) (lO := fun s : Int × Int => [(0, vR ad o), (1, vI x1), (3, vI x3), (2, vI (s.1)), (4, vI (s.2))]) (Φ := fun s : Int × Int => inR (s.1) ∧ inR (s.2)) (fun G2 hin2_2 hout2 s hs => ?_) FUEL s hs
      obtain ⟨x2, x4⟩ := s
      obtain ⟨ax2, ax4⟩ := hs
      have hin1_2 := fun (s' : Int × Int) (g : G2 (.inr (.inl s'))) => hin1_1 s' (hout2 _ g)
      have gk2 := fun (x : Int) (g : G2 (.inr (.inr (x)))) (q : inR x) => gk1 x (hout2 _ g) q
      show Z Y (m_Md_near_L17b o x1 x3 h x2 x4) G2 h 17 [(0, vR ad o), (1, vI x1), (3, vI x3), (2, vI x2), (4, vI x4)] []
      unfold m_Md_near_L17b
      refine z_s I (s_iload (pc' := 19) 4 rfl D_Md_near_0.2.2.1.1 rfl) ?_
      refine z_s I (s_aload_n (pc' := 20) 0 rfl D_Md_near_0.2.2.1.2 rfl rfl) ?_
      refine z_getI (pc' := 23) (jI := 1) I g_Md_123 ao rfl rfl D_Md_near_0.2.2.2.1 rfl (fun f1 => ?_)
      refine z_icmp_ge (tgt := 51) (pc' := 26) I ax4 f1 D_Md_near_0.2.2.2.2 rfl rfl (fun c2 => ?_) (fun c2 => ?_)
      · refine z_s I (s_iinc (pc' := 54) (lv' := [(3, vI (w32 (x3 + 1))), (0, vR ad o), (1, vI x1), (2, vI x2), (4, vI x4)]) (n := 2) rfl D_Md_near_1.2.2.2.1 (by decide) rfl rfl) ?_
        refine z_s I (s_goto (tgt := 4) D_Md_near_1.2.2.2.2 rfl) ?_
        refine z_s I (s_lv (lv' := [(0, vR ad o), (1, vI x1), (2, vI x2), (3, vI (w32 (x3 + 1)))]) [1, 2, 3, 0] rfl) ?_
        exact z_end (fun g => hin1_2 _ g ⟨ax2, (inR_w32 _)⟩)
      · refine z_s I (s_iload_n (pc' := 27) 3 rfl D_Md_near_1.1.1.1.1 rfl rfl) ?_
        refine z_s I (s_aload_n (pc' := 28) 0 rfl D_Md_near_1.1.1.1.2 rfl rfl) ?_
        refine z_s I (s_iload_n (pc' := 29) 2 rfl D_Md_near_1.1.1.2.1 rfl rfl) ?_
        refine z_s I (s_iload (pc' := 31) 4 rfl D_Md_near_1.1.1.2.2 rfl) ?_
        refine z_s I (s_iload_n (pc' := 32) 1 rfl D_Md_near_1.1.2.1.1 rfl rfl) ?_
        refine z_b1 (fun r5 q4 => ?_)
        refine z_callV (pc' := 35) I mv_Md_isNear ml_Md_289 (fun ad => [vI x3, vI x4, vI x1]) ⟨Nat.le_of_ble_eq_true rfl, Nat.le_of_ble_eq_true rfl⟩ ao (fun hh => c_Md_isNear hw ao ax3 ax4 ax1 hh q4) rfl rfl (Nat.le_of_ble_eq_true rfl) D_Md_near_1.1.2.1.2 rfl (fun f3 => ?_)
        refine z_if_eq (tgt := 42) (pc' := 38) I (b01.R f3) D_Md_near_1.1.2.2.1 rfl rfl (fun c6 => ?_) (fun c6 => ?_)
        · refine z_s I (s_iconst (pc' := 43) D_Md_near_1.2.1.1.2 rfl) ?_
          refine z_s I (s_iadd (pc' := 44) D_Md_near_1.2.1.2.1 rfl) ?_
          refine z_bI (inR_w32 _) (fun v7 e8 f9 => ?_)
          refine z_s I (s_istore_n (pc' := 45) (lv' := [(2, vI v7), (0, vR ad o), (1, vI x1), (3, vI x3), (4, vI x4)]) D_Md_near_1.2.1.2.2 rfl (by decide) rfl rfl) ?_
          refine z_s I (s_iinc (pc' := 48) (lv' := [(4, vI (w32 (x4 + 1))), (2, vI v7), (0, vR ad o), (1, vI x1), (3, vI x3)]) (n := 4) rfl D_Md_near_1.2.2.1.1 (by decide) rfl rfl) ?_
          refine z_s I (s_goto (tgt := 17) D_Md_near_1.2.2.1.2 rfl) ?_
          refine z_s I (s_lv (lv' := [(0, vR ad o), (1, vI x1), (3, vI x3), (2, vI v7), (4, vI (w32 (x4 + 1)))]) [2, 3, 4, 1, 0] rfl) ?_
          exact z_end (fun g => hin2_2 _ g ⟨f9, (inR_w32 _)⟩)
        · refine z_s I (s_iconst (pc' := 39) D_Md_near_1.1.2.2.2 rfl) ?_
          refine z_s I (s_goto (tgt := 43) D_Md_near_1.2.1.1.1 rfl) ?_
          refine z_s I (s_iadd (pc' := 44) D_Md_near_1.2.1.2.1 rfl) ?_
          refine z_bI (inR_w32 _) (fun v10 e11 f12 => ?_)
          refine z_s I (s_istore_n (pc' := 45) (lv' := [(2, vI v10), (0, vR ad o), (1, vI x1), (3, vI x3), (4, vI x4)]) D_Md_near_1.2.1.2.2 rfl (by decide) rfl rfl) ?_
          refine z_s I (s_iinc (pc' := 48) (lv' := [(4, vI (w32 (x4 + 1))), (2, vI v10), (0, vR ad o), (1, vI x1), (3, vI x3)]) (n := 4) rfl D_Md_near_1.2.2.1.1 (by decide) rfl rfl) ?_
          refine z_s I (s_goto (tgt := 17) D_Md_near_1.2.2.1.2 rfl) ?_
          refine z_s I (s_lv (lv' := [(0, vR ad o), (1, vI x1), (3, vI x3), (2, vI v10), (4, vI (w32 (x4 + 1)))]) [2, 3, 4, 1, 0] rfl) ?_
          exact z_end (fun g => hin2_2 _ g ⟨f12, (inR_w32 _)⟩)
    show Z Y (m_Md_near_L4b o x1 h x2 x3) G1 h 4 [(0, vR ad o), (1, vI x1), (2, vI x2), (3, vI x3)] []
    unfold m_Md_near_L4b
    refine z_s I (s_iload_n (pc' := 5) 3 rfl D_Md_near_0.1.2.1.1 rfl rfl) ?_
    refine z_s I (s_aload_n (pc' := 6) 0 rfl D_Md_near_0.1.2.1.2 rfl rfl) ?_
    refine z_getI (pc' := 9) (jI := 1) I g_Md_123 ao rfl rfl D_Md_near_0.1.2.2.1 rfl (fun f13 => ?_)
    refine z_icmp_ge (tgt := 57) (pc' := 12) I ax3 f13 D_Md_near_0.1.2.2.2 rfl rfl (fun c14 => ?_) (fun c14 => ?_)
    · refine z_s I (s_iload_n (pc' := 58) 2 rfl D_Md_near_2.1 rfl rfl) ?_
      exact z_ret (w := some (vI x2)) I (fun g => gk1 _ g ax2) ⟨_, rfl⟩ D_Md_near_2.2 rfl
    · refine z_s I (s_iload_n (pc' := 13) 3 rfl D_Md_near_0.2.1.1.1 rfl rfl) ?_
      refine z_s I (s_iconst (pc' := 14) D_Md_near_0.2.1.1.2 rfl) ?_
      refine z_s I (s_iadd (pc' := 15) D_Md_near_0.2.1.2.1 rfl) ?_
      refine z_bI (inR_w32 _) (fun v15 e16 f17 => ?_)
      refine z_s I (s_istore (pc' := 17) (lv' := [(4, vI v15), (0, vR ad o), (1, vI x1), (2, vI x2), (3, vI x3)]) D_Md_near_0.2.1.2.2 (by decide) rfl rfl) ?_
      refine z_s I (s_lv (lv' := [(0, vR ad o), (1, vI x1), (3, vI x3), (2, vI x2), (4, vI v15)]) [1, 2, 4, 3, 0] rfl) ?_
      exact L17 _ ax3 _ ⟨ax2, f17⟩
  have main : Z Y (m_Md_near o x1 h) G0 h 0 [(0, vR ad o), (1, vI x1)] [] := by
    unfold m_Md_near
    refine z_s I (s_iconst (pc' := 1) D_Md_near_0.1.1.1.1 rfl) ?_
    refine z_s I (s_istore_n (pc' := 2) (lv' := [(2, vI 0), (0, vR ad o), (1, vI x1)]) D_Md_near_0.1.1.1.2 rfl (by decide) rfl rfl) ?_
    refine z_s I (s_iconst (pc' := 3) D_Md_near_0.1.1.2.1 rfl) ?_
    refine z_s I (s_istore_n (pc' := 4) (lv' := [(3, vI 0), (2, vI 0), (0, vR ad o), (1, vI x1)]) D_Md_near_0.1.1.2.2 rfl (by decide) rfl rfl) ?_
    refine z_s I (s_lv (lv' := [(0, vR ad o), (1, vI x1), (2, vI 0), (3, vI 0)]) [2, 3, 1, 0] rfl) ?_
    exact L4 _ ⟨(b01.R bz0), (b01.R bz0)⟩
  exact main _ hF (by rw [hG0])
set_option maxHeartbeats 4000000 in
set_option maxRecDepth 20000 in
theorem c_Md_binds {l : Launch} {τ : TP} {o : Int} {h : HP} {h' : HP} (hw : wf τ) (ao : ok τ (4, 10) o) (hh : hr τ h) (hF : m_Md_binds o h = some h') : Ctr l y_Md_binds k_Md_binds 2 (Option.none : Option FieldType) 8 218 τ (fun ad => [vR ad o]) h none h' (True) := by
  refine ctr_of (by decide) hw hh (fun ad => Nat.le_of_ble_eq_true rfl) (fun ad K Y I hK => ?_)
  obtain ⟨G0, hG0⟩ : ∃ G : HP → Prop, G = fun x => x = h' := ⟨_, rfl⟩
  have gk0 : ∀ (x : HP), G0 x → K none x := fun x g => by
    rw [hG0] at g
    cases g
    exact hK trivial
  have L27 : ∀ (s : Int × HP), (inR (s.1)) → Z Y (m_Md_binds_L27 o s) G0 (s.2) 27 [(0, vR ad o), (1, vI (s.1))] [] := by
    intro s hs
    refine z_loop (G := G0) (hO := fun s : Int × HP => s.2) (lO := fun s : Int × HP => [(0, vR ad o), (1, vI (s.1))]) (Φ := fun s : Int × HP => inR (s.1)) (fun G1 hin1_1 hout1 s hs => ?_) FUEL s hs
    obtain ⟨x1, h⟩ := s
    have ax1 := hs
    have gk1 := fun (x : HP) (g : G1 (.inr (x))) => gk0 x (hout1 _ g)
    show Z Y (m_Md_binds_L27b o x1 h) G1 h 27 [(0, vR ad o), (1, vI x1)] []
    unfold m_Md_binds_L27b
    refine z_s I (s_iload_n (pc' := 28) 1 rfl D_Md_binds_1.1.1.1.1 rfl rfl) ?_
    refine z_s I (s_aload_n (pc' := 29) 0 rfl D_Md_binds_1.1.1.1.2 rfl rfl) ?_
    refine z_getI (pc' := 32) (jI := 29) I g_Md_280 ao rfl rfl D_Md_binds_1.1.1.2.1 rfl (fun f1 => ?_)
    refine z_icmp_ge (tgt := 94) (pc' := 35) I ax1 f1 D_Md_binds_1.1.1.2.2 rfl rfl (fun c2 => ?_) (fun c2 => ?_)
    · exact z_ret (w := none) I (fun g => gk1 _ g) rfl D_Md_binds_3.2.2.2.2 rfl
    · refine z_s I (s_aload_n (pc' := 36) 0 rfl D_Md_binds_1.1.2.1.1 rfl rfl) ?_
      refine z_getR (pc' := 39) (eI := o + 22) I g_Md_80 ao rfl (by omega) D_Md_binds_1.1.2.1.2 rfl ?_
      have k3 : ok τ (2, 28) (o + 22) := r_Md_isSuspect hw ao (by omega)
      refine z_s I (s_iload_n (pc' := 40) 1 rfl D_Md_binds_1.1.2.2.1 rfl rfl) ?_
      refine z_bald (pc' := 41) (nI := 28) I k3 ax1 rfl D_Md_binds_1.1.2.2.2 rfl (fun c4 f5 => ?_)
      refine z_if_eq (tgt := 88) (pc' := 44) I (b01.R f5) D_Md_binds_1.2.1.1.1 rfl rfl (fun c6 => ?_) (fun c6 => ?_)
      · refine z_s I (s_iinc (pc' := 91) (lv' := [(1, vI (w32 (x1 + 1))), (0, vR ad o)]) (n := 1) rfl D_Md_binds_3.2.2.1 (by decide) rfl rfl) ?_
        refine z_s I (s_goto (tgt := 27) D_Md_binds_3.2.2.2.1 rfl) ?_
        refine z_s I (s_lv (lv' := [(0, vR ad o), (1, vI (w32 (x1 + 1)))]) [1, 0] rfl) ?_
        exact z_end (fun g => hin1_1 _ g (inR_w32 _))
      · refine z_s I (s_aload_n (pc' := 45) 0 rfl D_Md_binds_1.2.1.1.2 rfl rfl) ?_
        refine z_getR (pc' := 48) (eI := o + 23) I g_Md_84 ao rfl (by omega) D_Md_binds_1.2.1.2.1 rfl ?_
        have k7 : ok τ (0, 8) (o + 23) := r_Md_links hw ao (by omega)
        refine z_s I (s_aload_n (pc' := 49) 0 rfl D_Md_binds_1.2.1.2.2 rfl rfl) ?_
        refine z_getR (pc' := 52) (eI := o + 18) I g_Md_68 ao rfl (by omega) D_Md_binds_1.2.2.1.1 rfl ?_
        have k8 : ok τ (0, 28) (o + 18) := r_Md_pairX hw ao (by omega)
        refine z_s I (s_iload_n (pc' := 53) 1 rfl D_Md_binds_1.2.2.1.2 rfl rfl) ?_
        refine z_iald (pc' := 54) (nI := 28) I k8 ax1 rfl D_Md_binds_1.2.2.2.1 rfl (fun c9 f10 => ?_)
        refine z_s I (s_dup2 (pc' := 55) rfl rfl D_Md_binds_1.2.2.2.2 rfl) ?_
        refine z_iald (pc' := 56) (nI := 8) I k7 f10 rfl D_Md_binds_2.1.1.1.1 rfl (fun c11 f12 => ?_)
        refine z_s I (s_iconst (pc' := 57) D_Md_binds_2.1.1.1.2 rfl) ?_
        refine z_s I (s_aload_n (pc' := 58) 0 rfl D_Md_binds_2.1.1.2.1 rfl rfl) ?_
        refine z_getR (pc' := 61) (eI := o + 19) I g_Md_71 ao rfl (by omega) D_Md_binds_2.1.1.2.2 rfl ?_
        have k13 : ok τ (0, 28) (o + 19) := r_Md_pairY hw ao (by omega)
        refine z_s I (s_iload_n (pc' := 62) 1 rfl D_Md_binds_2.1.2.1.1 rfl rfl) ?_
        refine z_iald (pc' := 63) (nI := 28) I k13 ax1 rfl D_Md_binds_2.1.2.1.2 rfl (fun c14 f15 => ?_)
        refine z_s I (s_ishl (pc' := 64) D_Md_binds_2.1.2.2.1 rfl) ?_
        refine z_s I (s_ior (pc' := 65) D_Md_binds_2.1.2.2.2 rfl) ?_
        refine z_iast (pc' := 66) (nI := 8) I k7 f10 (r_iOr _ _) rfl D_Md_binds_2.2.1.1.1 rfl (fun c16 => ?_)
        refine z_bH (fun h17 e18 => ?_)
        refine z_s I (s_aload_n (pc' := 67) 0 rfl D_Md_binds_2.2.1.1.2 rfl rfl) ?_
        refine z_getR (pc' := 70) (eI := o + 23) I g_Md_84 ao rfl (by omega) D_Md_binds_2.2.1.2.1 rfl ?_
        have k19 : ok τ (0, 8) (o + 23) := r_Md_links hw ao (by omega)
        refine z_s I (s_aload_n (pc' := 71) 0 rfl D_Md_binds_2.2.1.2.2 rfl rfl) ?_
        refine z_getR (pc' := 74) (eI := o + 19) I g_Md_71 ao rfl (by omega) D_Md_binds_2.2.2.1.1 rfl ?_
        have k20 : ok τ (0, 28) (o + 19) := r_Md_pairY hw ao (by omega)
        refine z_s I (s_iload_n (pc' := 75) 1 rfl D_Md_binds_2.2.2.1.2 rfl rfl) ?_
        refine z_iald (pc' := 76) (nI := 28) I k20 ax1 rfl D_Md_binds_2.2.2.2.1 rfl (fun c21 f22 => ?_)
        refine z_s I (s_dup2 (pc' := 77) rfl rfl D_Md_binds_2.2.2.2.2 rfl) ?_
        refine z_iald (pc' := 78) (nI := 8) I k19 f22 rfl D_Md_binds_3.1.1.1 rfl (fun c23 f24 => ?_)
        refine z_s I (s_iconst (pc' := 79) D_Md_binds_3.1.1.2.1 rfl) ?_
        refine z_s I (s_aload_n (pc' := 80) 0 rfl D_Md_binds_3.1.1.2.2 rfl rfl) ?_
        refine z_getR (pc' := 83) (eI := o + 18) I g_Md_68 ao rfl (by omega) D_Md_binds_3.1.2.1 rfl ?_
        have k25 : ok τ (0, 28) (o + 18) := r_Md_pairX hw ao (by omega)
        refine z_s I (s_iload_n (pc' := 84) 1 rfl D_Md_binds_3.1.2.2.1 rfl rfl) ?_
        refine z_iald (pc' := 85) (nI := 28) I k25 ax1 rfl D_Md_binds_3.1.2.2.2 rfl (fun c26 f27 => ?_)
        refine z_s I (s_ishl (pc' := 86) D_Md_binds_3.2.1.1 rfl) ?_
        refine z_s I (s_ior (pc' := 87) D_Md_binds_3.2.1.2.1 rfl) ?_
        refine z_iast (pc' := 88) (nI := 8) I k19 f22 (r_iOr _ _) rfl D_Md_binds_3.2.1.2.2 rfl (fun c28 => ?_)
        refine z_bH (fun h29 e30 => ?_)
        refine z_s I (s_iinc (pc' := 91) (lv' := [(1, vI (w32 (x1 + 1))), (0, vR ad o)]) (n := 1) rfl D_Md_binds_3.2.2.1 (by decide) rfl rfl) ?_
        refine z_s I (s_goto (tgt := 27) D_Md_binds_3.2.2.2.1 rfl) ?_
        refine z_s I (s_lv (lv' := [(0, vR ad o), (1, vI (w32 (x1 + 1)))]) [1, 0] rfl) ?_
        exact z_end (fun g => hin1_1 _ g (inR_w32 _))
  have L6 : ∀ (s : Int × HP), (inR (s.1)) → Z Y (m_Md_binds_L6 o s) G0 (s.2) 6 [(0, vR ad o), (1, vI (s.1))] [] := by
    intro s hs
    refine z_loop (G := G0) (hO := fun s : Int × HP => s.2) (lO := fun s : Int × HP => [(0, vR ad o), (1, vI (s.1))]) (Φ := fun s : Int × HP => inR (s.1)) (fun G1 hin1_1 hout1 s hs => ?_) FUEL s hs
    obtain ⟨x1, h⟩ := s
    have ax1 := hs
    have gk1 := fun (x : HP) (g : G1 (.inr (x))) => gk0 x (hout1 _ g)
    show Z Y (m_Md_binds_L6b o x1 h) G1 h 6 [(0, vR ad o), (1, vI x1)] []
    unfold m_Md_binds_L6b
    refine z_s I (s_iload_n (pc' := 7) 1 rfl D_Md_binds_0.1.2.1.1 rfl rfl) ?_
    refine z_s I (s_bipush (pc' := 9) D_Md_binds_0.1.2.1.2 rfl rfl) ?_
    refine z_icmp_ge (tgt := 25) (pc' := 12) I ax1 (inR_c (x := 8) rfl) D_Md_binds_0.1.2.2.1 rfl rfl (fun c31 => ?_) (fun c31 => ?_)
    · refine z_s I (s_iconst (pc' := 26) D_Md_binds_0.2.2.2.1 rfl) ?_
      refine z_s I (s_istore_n (pc' := 27) (lv' := [(1, vI 0), (0, vR ad o)]) D_Md_binds_0.2.2.2.2 rfl (by decide) rfl rfl) ?_
      refine z_map _ (fun x g => hout1 x g) ?_
      refine z_s I (s_lv (lv' := [(0, vR ad o), (1, vI 0)]) [1, 0] rfl) ?_
      exact L27 _ (b01.R bz0)
    · refine z_s I (s_aload_n (pc' := 13) 0 rfl D_Md_binds_0.1.2.2.2 rfl rfl) ?_
      refine z_getR (pc' := 16) (eI := o + 23) I g_Md_84 ao rfl (by omega) D_Md_binds_0.2.1.1.1 rfl ?_
      have k32 : ok τ (0, 8) (o + 23) := r_Md_links hw ao (by omega)
      refine z_s I (s_iload_n (pc' := 17) 1 rfl D_Md_binds_0.2.1.1.2 rfl rfl) ?_
      refine z_s I (s_iconst (pc' := 18) D_Md_binds_0.2.1.2.1 rfl) ?_
      refine z_iast (pc' := 19) (nI := 8) I k32 ax1 (b01.R bz0) rfl D_Md_binds_0.2.1.2.2 rfl (fun c33 => ?_)
      refine z_bH (fun h34 e35 => ?_)
      refine z_s I (s_iinc (pc' := 22) (lv' := [(1, vI (w32 (x1 + 1))), (0, vR ad o)]) (n := 1) rfl D_Md_binds_0.2.2.1.1 (by decide) rfl rfl) ?_
      refine z_s I (s_goto (tgt := 6) D_Md_binds_0.2.2.1.2 rfl) ?_
      refine z_s I (s_lv (lv' := [(0, vR ad o), (1, vI (w32 (x1 + 1)))]) [1, 0] rfl) ?_
      exact z_end (fun g => hin1_1 _ g (inR_w32 _))
  have main : Z Y (m_Md_binds o h) G0 h 0 [(0, vR ad o)] [] := by
    unfold m_Md_binds
    refine z_s I (s_aload_n (pc' := 1) 0 rfl D_Md_binds_0.1.1.1.1 rfl rfl) ?_
    refine z_b1 (fun h38 q37 => ?_)
    refine z_callV (pc' := 4) I mv_Md_orders ml_Md_300 (fun ad => []) ⟨Nat.le_of_ble_eq_true rfl, Nat.le_of_ble_eq_true rfl⟩ ao (fun hh => c_Md_orders hw ao hh q37) rfl rfl (Nat.le_of_ble_eq_true rfl) D_Md_binds_0.1.1.1.2 rfl (fun f36 => ?_)
    refine z_s I (s_iconst (pc' := 5) D_Md_binds_0.1.1.2.1 rfl) ?_
    refine z_s I (s_istore_n (pc' := 6) (lv' := [(1, vI 0), (0, vR ad o)]) D_Md_binds_0.1.1.2.2 rfl (by decide) rfl rfl) ?_
    refine z_s I (s_lv (lv' := [(0, vR ad o), (1, vI 0)]) [1, 0] rfl) ?_
    exact L6 _ (b01.R bz0)
  exact main _ hF (by rw [hG0])
set_option maxHeartbeats 4000000 in
set_option maxRecDepth 20000 in
theorem c_Md_common {l : Launch} {τ : TP} {o : Int} {x1 : Int} {h : HP} {r : Int} (hw : wf τ) (ao : ok τ (4, 10) o) (ax1 : inR x1) (hh : hr τ h) (hF : m_Md_common o x1 h = some r) : Ctr l y_Md_common k_Md_common 4 (Option.some FieldType.int) 0 0 τ (fun ad => [vR ad o, vI x1]) h (some (vI r)) h (inR r) := by
  refine ctr_of (by decide) hw hh (fun ad => Nat.le_of_ble_eq_true rfl) (fun ad K Y I hK => ?_)
  obtain ⟨G0, hG0⟩ : ∃ G : Int → Prop, G = fun x => x = r := ⟨_, rfl⟩
  have gk0 : ∀ (x : Int), G0 x → inR x → K (some (vI x)) h := fun x g q => by
    rw [hG0] at g
    cases g
    exact hK q
  have L11 : ∀ (s : Int × Int), (inR (s.1) ∧ inR (s.2)) → Z Y (m_Md_common_L11 o x1 h s) G0 h 11 [(0, vR ad o), (1, vI x1), (2, vI (s.1)), (3, vI (s.2))] [] := by
    intro s hs
    refine z_loop (G := G0) (hO := fun s : Int × Int => h) (lO := fun s : Int × Int => [(0, vR ad o), (1, vI x1), (2, vI (s.1)), (3, vI (s.2))]) (Φ := fun s : Int × Int => inR (s.1) ∧ inR (s.2)) (fun G1 hin1_1 hout1 s hs => ?_) FUEL s hs
    obtain ⟨x2, x3⟩ := s
    obtain ⟨ax2, ax3⟩ := hs
    have gk1 := fun (x : Int) (g : G1 (.inr (x))) (q : inR x) => gk0 x (hout1 _ g) q
    show Z Y (m_Md_common_L11b o x1 h x2 x3) G1 h 11 [(0, vR ad o), (1, vI x1), (2, vI x2), (3, vI x3)] []
    unfold m_Md_common_L11b
    refine z_s I (s_iload_n (pc' := 12) 3 rfl D_Md_common_0.2.1.1.2 rfl rfl) ?_
    refine z_s I (s_aload_n (pc' := 13) 0 rfl D_Md_common_0.2.1.2.1 rfl rfl) ?_
    refine z_getI (pc' := 16) (jI := 1) I g_Md_123 ao rfl rfl D_Md_common_0.2.1.2.2 rfl (fun f1 => ?_)
    refine z_icmp_ge (tgt := 47) (pc' := 19) I ax3 f1 D_Md_common_0.2.2.1.1 rfl rfl (fun c2 => ?_) (fun c2 => ?_)
    · refine z_s I (s_iload_n (pc' := 48) 2 rfl D_Md_common_1.2.2.2.2 rfl rfl) ?_
      exact z_ret (w := some (vI x2)) I (fun g => gk1 _ g ax2) ⟨_, rfl⟩ D_Md_common_2 rfl
    · refine z_s I (s_iload_n (pc' := 20) 2 rfl D_Md_common_0.2.2.1.2 rfl rfl) ?_
      refine z_s I (s_iload_n (pc' := 21) 1 rfl D_Md_common_0.2.2.2.1 rfl rfl) ?_
      refine z_s I (s_iload_n (pc' := 22) 3 rfl D_Md_common_0.2.2.2.2 rfl rfl) ?_
      refine z_s I (s_ishr (pc' := 23) D_Md_common_1.1.1.1.1 rfl) ?_
      refine z_s I (s_iconst (pc' := 24) D_Md_common_1.1.1.1.2 rfl) ?_
      refine z_s I (s_iand (pc' := 25) D_Md_common_1.1.1.2.1 rfl) ?_
      refine z_s I (s_iconst (pc' := 26) D_Md_common_1.1.1.2.2 rfl) ?_
      refine z_icmp_ne (tgt := 38) (pc' := 29) I (r_iAnd _ _) (b01.R bz1) D_Md_common_1.1.2.1.1 rfl rfl (fun c3 => ?_) (fun c3 => ?_)
      · refine z_s I (s_iconst (pc' := 39) D_Md_common_1.2.1.2.1 rfl) ?_
        refine z_s I (s_iand (pc' := 40) D_Md_common_1.2.1.2.2 rfl) ?_
        refine z_bI (r_iAnd _ _) (fun v4 e5 f6 => ?_)
        refine z_s I (s_istore_n (pc' := 41) (lv' := [(2, vI v4), (0, vR ad o), (1, vI x1), (3, vI x3)]) D_Md_common_1.2.2.1.1 rfl (by decide) rfl rfl) ?_
        refine z_s I (s_iinc (pc' := 44) (lv' := [(3, vI (w32 (x3 + 1))), (2, vI v4), (0, vR ad o), (1, vI x1)]) (n := 3) rfl D_Md_common_1.2.2.1.2 (by decide) rfl rfl) ?_
        refine z_s I (s_goto (tgt := 11) D_Md_common_1.2.2.2.1 rfl) ?_
        refine z_s I (s_lv (lv' := [(0, vR ad o), (1, vI x1), (2, vI v4), (3, vI (w32 (x3 + 1)))]) [2, 3, 1, 0] rfl) ?_
        exact z_end (fun g => hin1_1 _ g ⟨f6, (inR_w32 _)⟩)
      · refine z_s I (s_aload_n (pc' := 30) 0 rfl D_Md_common_1.1.2.1.2 rfl rfl) ?_
        refine z_getR (pc' := 33) (eI := o + 23) I g_Md_84 ao rfl (by omega) D_Md_common_1.1.2.2.1 rfl ?_
        have k7 : ok τ (0, 8) (o + 23) := r_Md_links hw ao (by omega)
        refine z_s I (s_iload_n (pc' := 34) 3 rfl D_Md_common_1.1.2.2.2 rfl rfl) ?_
        refine z_iald (pc' := 35) (nI := 8) I k7 ax3 rfl D_Md_common_1.2.1.1.1 rfl (fun c8 f9 => ?_)
        refine z_s I (s_goto (tgt := 39) D_Md_common_1.2.1.1.2 rfl) ?_
        refine z_s I (s_iand (pc' := 40) D_Md_common_1.2.1.2.2 rfl) ?_
        refine z_bI (r_iAnd _ _) (fun v10 e11 f12 => ?_)
        refine z_s I (s_istore_n (pc' := 41) (lv' := [(2, vI v10), (0, vR ad o), (1, vI x1), (3, vI x3)]) D_Md_common_1.2.2.1.1 rfl (by decide) rfl rfl) ?_
        refine z_s I (s_iinc (pc' := 44) (lv' := [(3, vI (w32 (x3 + 1))), (2, vI v10), (0, vR ad o), (1, vI x1)]) (n := 3) rfl D_Md_common_1.2.2.1.2 (by decide) rfl rfl) ?_
        refine z_s I (s_goto (tgt := 11) D_Md_common_1.2.2.2.1 rfl) ?_
        refine z_s I (s_lv (lv' := [(0, vR ad o), (1, vI x1), (2, vI v10), (3, vI (w32 (x3 + 1)))]) [2, 3, 1, 0] rfl) ?_
        exact z_end (fun g => hin1_1 _ g ⟨f12, (inR_w32 _)⟩)
  have main : Z Y (m_Md_common o x1 h) G0 h 0 [(0, vR ad o), (1, vI x1)] [] := by
    unfold m_Md_common
    refine z_s I (s_iconst (pc' := 1) D_Md_common_0.1.1.1.1 rfl) ?_
    refine z_s I (s_aload_n (pc' := 2) 0 rfl D_Md_common_0.1.1.1.2 rfl rfl) ?_
    refine z_getI (pc' := 5) (jI := 1) I g_Md_123 ao rfl rfl D_Md_common_0.1.1.2.1 rfl (fun f13 => ?_)
    refine z_s I (s_ishl (pc' := 6) D_Md_common_0.1.1.2.2 rfl) ?_
    refine z_s I (s_iconst (pc' := 7) D_Md_common_0.1.2.1.1 rfl) ?_
    refine z_s I (s_isub (pc' := 8) D_Md_common_0.1.2.1.2 rfl) ?_
    refine z_bI (inR_w32 _) (fun v14 e15 f16 => ?_)
    refine z_s I (s_istore_n (pc' := 9) (lv' := [(2, vI v14), (0, vR ad o), (1, vI x1)]) D_Md_common_0.1.2.2.1 rfl (by decide) rfl rfl) ?_
    refine z_s I (s_iconst (pc' := 10) D_Md_common_0.1.2.2.2 rfl) ?_
    refine z_s I (s_istore_n (pc' := 11) (lv' := [(3, vI 0), (2, vI v14), (0, vR ad o), (1, vI x1)]) D_Md_common_0.2.1.1.1 rfl (by decide) rfl rfl) ?_
    refine z_s I (s_lv (lv' := [(0, vR ad o), (1, vI x1), (2, vI v14), (3, vI 0)]) [2, 3, 1, 0] rfl) ?_
    exact L11 _ ⟨f16, (b01.R bz0)⟩
  exact main _ hF (by rw [hG0])
set_option maxHeartbeats 4000000 in
set_option maxRecDepth 20000 in
theorem c_Md_isGroup {l : Launch} {τ : TP} {o : Int} {x1 : Int} {h : HP} {r : Int} (hw : wf τ) (ao : ok τ (4, 10) o) (ax1 : inR x1) (hh : hr τ h) (hF : m_Md_isGroup o x1 h = some r) : Ctr l y_Md_isGroup k_Md_isGroup 3 (Option.some FieldType.boolean) 1 23 τ (fun ad => [vR ad o, vI x1]) h (some (vI r)) h (b01 r) := by
  refine ctr_of (by decide) hw hh (fun ad => Nat.le_of_ble_eq_true rfl) (fun ad K Y I hK => ?_)
  obtain ⟨G0, hG0⟩ : ∃ G : Int → Prop, G = fun x => x = r := ⟨_, rfl⟩
  have gk0 : ∀ (x : Int), G0 x → b01 x → K (some (vI x)) h := fun x g q => by
    rw [hG0] at g
    cases g
    exact hK q
  have L20 : ∀ (s : Int), (inR s) → Z Y (m_Md_isGroup_L20 o x1 h s) G0 h 20 [(0, vR ad o), (1, vI x1), (2, vI s)] [] := by
    intro s hs
    refine z_loop (G := G0) (hO := fun s : Int => h) (lO := fun s : Int => [(0, vR ad o), (1, vI x1), (2, vI s)]) (Φ := fun s : Int => inR s) (fun G1 hin1_1 hout1 s hs => ?_) FUEL s hs
    obtain ⟨x2, rfl⟩ : ∃ z, z = s := ⟨_, rfl⟩
    have ax2 := hs
    have gk1 := fun (x : Int) (g : G1 (.inr (x))) (q : b01 x) => gk0 x (hout1 _ g) q
    show Z Y (m_Md_isGroup_L20b o x1 h x2) G1 h 20 [(0, vR ad o), (1, vI x1), (2, vI x2)] []
    unfold m_Md_isGroup_L20b
    refine z_s I (s_iload_n (pc' := 21) 2 rfl D_Md_isGroup_0.2.2.2.1 rfl rfl) ?_
    refine z_s I (s_aload_n (pc' := 22) 0 rfl D_Md_isGroup_0.2.2.2.2 rfl rfl) ?_
    refine z_getI (pc' := 25) (jI := 1) I g_Md_123 ao rfl rfl D_Md_isGroup_1.1.1.1.1 rfl (fun f1 => ?_)
    refine z_icmp_ge (tgt := 64) (pc' := 28) I ax2 f1 D_Md_isGroup_1.1.1.1.2 rfl rfl (fun c2 => ?_) (fun c2 => ?_)
    · refine z_s I (s_iconst (pc' := 65) D_Md_isGroup_2.2.2.2.1 rfl) ?_
      exact z_ret (w := some (vI 1)) I (fun g => gk1 _ g bz1) ⟨_, bz1, rfl⟩ D_Md_isGroup_2.2.2.2.2 rfl
    · refine z_s I (s_iload_n (pc' := 29) 1 rfl D_Md_isGroup_1.1.1.2.1 rfl rfl) ?_
      refine z_s I (s_iload_n (pc' := 30) 2 rfl D_Md_isGroup_1.1.1.2.2 rfl rfl) ?_
      refine z_s I (s_ishr (pc' := 31) D_Md_isGroup_1.1.2.1.1 rfl) ?_
      refine z_s I (s_iconst (pc' := 32) D_Md_isGroup_1.1.2.1.2 rfl) ?_
      refine z_s I (s_iand (pc' := 33) D_Md_isGroup_1.1.2.2.1 rfl) ?_
      refine z_s I (s_iconst (pc' := 34) D_Md_isGroup_1.1.2.2.2 rfl) ?_
      refine z_icmp_ne (tgt := 58) (pc' := 37) I (r_iAnd _ _) (b01.R bz1) D_Md_isGroup_1.2.1.1.1 rfl rfl (fun c3 => ?_) (fun c3 => ?_)
      · refine z_s I (s_iinc (pc' := 61) (lv' := [(2, vI (w32 (x2 + 1))), (0, vR ad o), (1, vI x1)]) (n := 2) rfl D_Md_isGroup_2.2.2.1.1 (by decide) rfl rfl) ?_
        refine z_s I (s_goto (tgt := 20) D_Md_isGroup_2.2.2.1.2 rfl) ?_
        refine z_s I (s_lv (lv' := [(0, vR ad o), (1, vI x1), (2, vI (w32 (x2 + 1)))]) [1, 2, 0] rfl) ?_
        exact z_end (fun g => hin1_1 _ g (inR_w32 _))
      · refine z_s I (s_iload_n (pc' := 38) 1 rfl D_Md_isGroup_1.2.1.1.2 rfl rfl) ?_
        refine z_s I (s_aload_n (pc' := 39) 0 rfl D_Md_isGroup_1.2.1.2.1 rfl rfl) ?_
        refine z_getR (pc' := 42) (eI := o + 23) I g_Md_84 ao rfl (by omega) D_Md_isGroup_1.2.1.2.2 rfl ?_
        have k4 : ok τ (0, 8) (o + 23) := r_Md_links hw ao (by omega)
        refine z_s I (s_iload_n (pc' := 43) 2 rfl D_Md_isGroup_1.2.2.1.1 rfl rfl) ?_
        refine z_iald (pc' := 44) (nI := 8) I k4 ax2 rfl D_Md_isGroup_1.2.2.1.2 rfl (fun c5 f6 => ?_)
        refine z_s I (s_iconst (pc' := 45) D_Md_isGroup_1.2.2.2.1 rfl) ?_
        refine z_s I (s_ixor (pc' := 46) D_Md_isGroup_1.2.2.2.2 rfl) ?_
        refine z_s I (s_iand (pc' := 47) D_Md_isGroup_2.1.1.1 rfl) ?_
        refine z_s I (s_iconst (pc' := 48) D_Md_isGroup_2.1.1.2.1 rfl) ?_
        refine z_s I (s_iload_n (pc' := 49) 2 rfl D_Md_isGroup_2.1.1.2.2 rfl rfl) ?_
        refine z_s I (s_ishl (pc' := 50) D_Md_isGroup_2.1.2.1.1 rfl) ?_
        refine z_s I (s_iconst (pc' := 51) D_Md_isGroup_2.1.2.1.2 rfl) ?_
        refine z_s I (s_ixor (pc' := 52) D_Md_isGroup_2.1.2.2.1 rfl) ?_
        refine z_s I (s_iand (pc' := 53) D_Md_isGroup_2.1.2.2.2 rfl) ?_
        refine z_if_eq (tgt := 58) (pc' := 56) I (r_iAnd _ _) D_Md_isGroup_2.2.1.1 rfl rfl (fun c7 => ?_) (fun c7 => ?_)
        · refine z_s I (s_iinc (pc' := 61) (lv' := [(2, vI (w32 (x2 + 1))), (0, vR ad o), (1, vI x1)]) (n := 2) rfl D_Md_isGroup_2.2.2.1.1 (by decide) rfl rfl) ?_
          refine z_s I (s_goto (tgt := 20) D_Md_isGroup_2.2.2.1.2 rfl) ?_
          refine z_s I (s_lv (lv' := [(0, vR ad o), (1, vI x1), (2, vI (w32 (x2 + 1)))]) [1, 2, 0] rfl) ?_
          exact z_end (fun g => hin1_1 _ g (inR_w32 _))
        · refine z_s I (s_iconst (pc' := 57) D_Md_isGroup_2.2.1.2.1 rfl) ?_
          exact z_ret (w := some (vI 0)) I (fun g => gk1 _ g bz0) ⟨_, bz0, rfl⟩ D_Md_isGroup_2.2.1.2.2 rfl
  have main : Z Y (m_Md_isGroup o x1 h) G0 h 0 [(0, vR ad o), (1, vI x1)] [] := by
    unfold m_Md_isGroup
    refine z_s I (s_iload_n (pc' := 1) 1 rfl D_Md_isGroup_0.1.1.1.1 rfl rfl) ?_
    refine z_s I (s_iload_n (pc' := 2) 1 rfl D_Md_isGroup_0.1.1.1.2 rfl rfl) ?_
    refine z_s I (s_iconst (pc' := 3) D_Md_isGroup_0.1.1.2.1 rfl) ?_
    refine z_s I (s_isub (pc' := 4) D_Md_isGroup_0.1.1.2.2 rfl) ?_
    refine z_s I (s_iand (pc' := 5) D_Md_isGroup_0.1.2.1.1 rfl) ?_
    refine z_if_eq (tgt := 16) (pc' := 8) I (r_iAnd _ _) D_Md_isGroup_0.1.2.1.2 rfl rfl (fun c8 => ?_) (fun c8 => ?_)
    · refine z_s I (s_iconst (pc' := 17) D_Md_isGroup_0.2.1.2.1 rfl) ?_
      exact z_ret (w := some (vI 0)) I (fun g => gk0 _ g bz0) ⟨_, bz0, rfl⟩ D_Md_isGroup_0.2.1.2.2 rfl
    · refine z_s I (s_aload_n (pc' := 9) 0 rfl D_Md_isGroup_0.1.2.2.1 rfl rfl) ?_
      refine z_s I (s_iload_n (pc' := 10) 1 rfl D_Md_isGroup_0.1.2.2.2 rfl rfl) ?_
      refine z_b1 (fun r11 q10 => ?_)
      refine z_callV (pc' := 13) I mv_Md_common ml_Md_303 (fun ad => [vI x1]) ⟨Nat.le_of_ble_eq_true rfl, Nat.le_of_ble_eq_true rfl⟩ ao (fun hh => c_Md_common hw ao ax1 hh q10) rfl rfl (Nat.le_of_ble_eq_true rfl) D_Md_isGroup_0.2.1.1.1 rfl (fun f9 => ?_)
      refine z_if_eq (tgt := 18) (pc' := 16) I f9 D_Md_isGroup_0.2.1.1.2 rfl rfl (fun c12 => ?_) (fun c12 => ?_)
      · refine z_s I (s_iconst (pc' := 19) D_Md_isGroup_0.2.2.1.1 rfl) ?_
        refine z_s I (s_istore_n (pc' := 20) (lv' := [(2, vI 0), (0, vR ad o), (1, vI x1)]) D_Md_isGroup_0.2.2.1.2 rfl (by decide) rfl rfl) ?_
        refine z_s I (s_lv (lv' := [(0, vR ad o), (1, vI x1), (2, vI 0)]) [1, 2, 0] rfl) ?_
        exact L20 _ (b01.R bz0)
      · refine z_s I (s_iconst (pc' := 17) D_Md_isGroup_0.2.1.2.1 rfl) ?_
        exact z_ret (w := some (vI 0)) I (fun g => gk0 _ g bz0) ⟨_, bz0, rfl⟩ D_Md_isGroup_0.2.1.2.2 rfl
  exact main _ hF (by rw [hG0])
set_option maxHeartbeats 4000000 in
set_option maxRecDepth 20000 in
theorem c_Md_grouped {l : Launch} {τ : TP} {o : Int} {x1 : Int} {h : HP} {r : Int} {h' : HP} (hw : wf τ) (ao : ok τ (4, 10) o) (ax1 : inR x1) (hh : hr τ h) (hF : m_Md_grouped o x1 h = some (r, h')) : Ctr l y_Md_grouped k_Md_grouped 4 (Option.some FieldType.int) 9 239 τ (fun ad => [vR ad o, vI x1]) h (some (vI r)) h' (inR r) := by
  refine ctr_of (by decide) hw hh (fun ad => Nat.le_of_ble_eq_true rfl) (fun ad K Y I hK => ?_)
  obtain ⟨G0, hG0⟩ : ∃ G : Int × HP → Prop, G = fun x => x = (r, h') := ⟨_, rfl⟩
  have gk0 : ∀ (x : Int) (y : HP), G0 (x, y) → inR x → K (some (vI x)) y := fun x y g q => by
    rw [hG0] at g
    cases g
    exact hK q
  have J42 : ∀ (x2 : Int) (ax2 : inR x2) (h : HP), Z Y (m_Md_grouped_J42 x1 x2 h) G0 h 42 [(1, vI x1), (2, vI x2)] [] := by
    intro x2 ax2 h
    unfold m_Md_grouped_J42
    refine z_s I (s_iload_n (pc' := 43) 0 rfl D_Md_grouped_1.2.1.2.1 rfl rfl) ?_
    refine z_if_ge (tgt := 50) (pc' := 46) I ax1 D_Md_grouped_1.2.1.2.2 rfl rfl (fun c1 => ?_) (fun c1 => ?_)
    · refine z_s I (s_bipush (pc' := 52) D_Md_grouped_1.2.2.2.1 rfl rfl) ?_
      exact z_ret (w := some (vI (-5))) I (fun g => gk0 _ _ g (inR_c (x := (-5)) rfl)) ⟨_, rfl⟩ D_Md_grouped_1.2.2.2.2 rfl
    · refine z_s I (s_iload_n (pc' := 47) 1 rfl D_Md_grouped_1.2.2.1.1 rfl rfl) ?_
      refine z_s I (s_goto (tgt := 52) D_Md_grouped_1.2.2.1.2 rfl) ?_
      exact z_ret (w := some (vI x2)) I (fun g => gk0 _ _ g ax2) ⟨_, rfl⟩ D_Md_grouped_1.2.2.2.2 rfl
  have L8 : ∀ (h : HP) (s : Int × Int), (inR (s.1) ∧ inR (s.2)) → Z Y (m_Md_grouped_L8 o x1 h s) G0 h 8 [(0, vR ad o), (1, vI x1), (2, vI (s.1)), (3, vI (s.2))] [] := by
    intro h s hs
    refine z_loop (G := G0) (hO := fun s : Int × Int => h) (lO := fun s : Int × Int => [(0, vR ad o), (1, vI x1), (2, vI (s.1)), (3, vI (s.2))]) (Φ := fun s : Int × Int => inR (s.1) ∧ inR (s.2)) (fun G1 hin1_1 hout1 s hs => ?_) FUEL s hs
    obtain ⟨x2, x3⟩ := s
    obtain ⟨ax2, ax3⟩ := hs
    have gk1 := fun (x : Int) (y : HP) (g : G1 (.inr ((x, y)))) (q : inR x) => gk0 x y (hout1 _ g) q
    show Z Y (m_Md_grouped_L8b o x1 h x2 x3) G1 h 8 [(0, vR ad o), (1, vI x1), (2, vI x2), (3, vI x3)] []
    unfold m_Md_grouped_L8b
    refine z_s I (s_iload_n (pc' := 9) 3 rfl D_Md_grouped_0.1.2.2.1 rfl rfl) ?_
    refine z_s I (s_iconst (pc' := 10) D_Md_grouped_0.1.2.2.2 rfl) ?_
    refine z_s I (s_aload_n (pc' := 11) 0 rfl D_Md_grouped_0.2.1.1.1 rfl rfl) ?_
    refine z_getI (pc' := 14) (jI := 1) I g_Md_123 ao rfl rfl D_Md_grouped_0.2.1.1.2 rfl (fun f2 => ?_)
    refine z_s I (s_ishl (pc' := 15) D_Md_grouped_0.2.1.2.1 rfl) ?_
    refine z_icmp_ge (tgt := 42) (pc' := 18) I ax3 (r_iShl _ _) D_Md_grouped_0.2.1.2.2 rfl rfl (fun c3 => ?_) (fun c3 => ?_)
    · refine z_map _ (fun x g => hout1 x g) ?_
      refine z_s I (s_lv (lv' := [(1, vI x1), (2, vI x2)]) [1, 2] rfl) ?_
      exact J42 _ ax2 _
    · refine z_s I (s_aload_n (pc' := 19) 0 rfl D_Md_grouped_0.2.2.1.1 rfl rfl) ?_
      refine z_s I (s_iload_n (pc' := 20) 3 rfl D_Md_grouped_0.2.2.1.2 rfl rfl) ?_
      refine z_b1 (fun r6 q5 => ?_)
      refine z_callV (pc' := 23) I mv_Md_isGroup ml_Md_309 (fun ad => [vI x3]) ⟨Nat.le_of_ble_eq_true rfl, Nat.le_of_ble_eq_true rfl⟩ ao (fun hh => c_Md_isGroup hw ao ax3 hh q5) rfl rfl (Nat.le_of_ble_eq_true rfl) D_Md_grouped_0.2.2.2.1 rfl (fun f4 => ?_)
      refine z_if_eq (tgt := 36) (pc' := 26) I (b01.R f4) D_Md_grouped_0.2.2.2.2 rfl rfl (fun c7 => ?_) (fun c7 => ?_)
      · refine z_s I (s_iinc (pc' := 39) (lv' := [(3, vI (w32 (x3 + 1))), (0, vR ad o), (1, vI x1), (2, vI x2)]) (n := 3) rfl D_Md_grouped_1.1.2.2.2 (by decide) rfl rfl) ?_
        refine z_s I (s_goto (tgt := 8) D_Md_grouped_1.2.1.1 rfl) ?_
        refine z_s I (s_lv (lv' := [(0, vR ad o), (1, vI x1), (2, vI x2), (3, vI (w32 (x3 + 1)))]) [1, 2, 3, 0] rfl) ?_
        exact z_end (fun g => hin1_1 _ g ⟨ax2, (inR_w32 _)⟩)
      · refine z_s I (s_iload_n (pc' := 27) 2 rfl D_Md_grouped_1.1.1.1 rfl rfl) ?_
        refine z_s I (s_iload_n (pc' := 28) 1 rfl D_Md_grouped_1.1.1.2.1 rfl rfl) ?_
        refine z_icmp_ne (tgt := 33) (pc' := 31) I ax2 ax1 D_Md_grouped_1.1.1.2.2 rfl rfl (fun c8 => ?_) (fun c8 => ?_)
        · refine z_s I (s_iinc (pc' := 36) (lv' := [(2, vI (w32 (x2 + 1))), (0, vR ad o), (1, vI x1), (3, vI x3)]) (n := 2) rfl D_Md_grouped_1.1.2.2.1 (by decide) rfl rfl) ?_
          refine z_s I (s_iinc (pc' := 39) (lv' := [(3, vI (w32 (x3 + 1))), (2, vI (w32 (x2 + 1))), (0, vR ad o), (1, vI x1)]) (n := 3) rfl D_Md_grouped_1.1.2.2.2 (by decide) rfl rfl) ?_
          refine z_s I (s_goto (tgt := 8) D_Md_grouped_1.2.1.1 rfl) ?_
          refine z_s I (s_lv (lv' := [(0, vR ad o), (1, vI x1), (2, vI (w32 (x2 + 1))), (3, vI (w32 (x3 + 1)))]) [2, 3, 1, 0] rfl) ?_
          exact z_end (fun g => hin1_1 _ g ⟨(inR_w32 _), (inR_w32 _)⟩)
        · refine z_s I (s_iload_n (pc' := 32) 3 rfl D_Md_grouped_1.1.2.1.1 rfl rfl) ?_
          exact z_ret (w := some (vI x3)) I (fun g => gk1 _ _ g ax3) ⟨_, rfl⟩ D_Md_grouped_1.1.2.1.2 rfl
  have main : Z Y (m_Md_grouped o x1 h) G0 h 0 [(0, vR ad o), (1, vI x1)] [] := by
    unfold m_Md_grouped
    refine z_s I (s_aload_n (pc' := 1) 0 rfl D_Md_grouped_0.1.1.1.1 rfl rfl) ?_
    refine z_b1 (fun h11 q10 => ?_)
    refine z_callV (pc' := 4) I mv_Md_binds ml_Md_306 (fun ad => []) ⟨Nat.le_of_ble_eq_true rfl, Nat.le_of_ble_eq_true rfl⟩ ao (fun hh => c_Md_binds hw ao hh q10) rfl rfl (Nat.le_of_ble_eq_true rfl) D_Md_grouped_0.1.1.1.2 rfl (fun f9 => ?_)
    refine z_s I (s_iconst (pc' := 5) D_Md_grouped_0.1.1.2.1 rfl) ?_
    refine z_s I (s_istore_n (pc' := 6) (lv' := [(2, vI 0), (0, vR ad o), (1, vI x1)]) D_Md_grouped_0.1.1.2.2 rfl (by decide) rfl rfl) ?_
    refine z_s I (s_iconst (pc' := 7) D_Md_grouped_0.1.2.1.1 rfl) ?_
    refine z_s I (s_istore_n (pc' := 8) (lv' := [(3, vI 1), (2, vI 0), (0, vR ad o), (1, vI x1)]) D_Md_grouped_0.1.2.1.2 rfl (by decide) rfl rfl) ?_
    refine z_s I (s_lv (lv' := [(0, vR ad o), (1, vI x1), (2, vI 0), (3, vI 1)]) [2, 3, 1, 0] rfl) ?_
    exact L8 _ _ ⟨(b01.R bz0), (b01.R bz1)⟩
  exact main _ hF (by rw [hG0])
set_option maxHeartbeats 4000000 in
set_option maxRecDepth 20000 in
theorem c_Md_greatest {l : Launch} {τ : TP} {o : Int} {h : HP} {r : Int} {h' : HP} (hw : wf τ) (ao : ok τ (4, 10) o) (hh : hr τ h) (hF : m_Md_greatest o h = some (r, h')) : Ctr l y_Md_greatest k_Md_greatest 3 (Option.some FieldType.int) 9 239 τ (fun ad => [vR ad o]) h (some (vI r)) h' (inR r) := by
  refine ctr_of (by decide) hw hh (fun ad => Nat.le_of_ble_eq_true rfl) (fun ad K Y I hK => ?_)
  obtain ⟨G0, hG0⟩ : ∃ G : Int × HP → Prop, G = fun x => x = (r, h') := ⟨_, rfl⟩
  have gk0 : ∀ (x : Int) (y : HP), G0 (x, y) → inR x → K (some (vI x)) y := fun x y g q => by
    rw [hG0] at g
    cases g
    exact hK q
  have L8 : ∀ (h : HP) (s : Int × Int), (inR (s.1) ∧ inR (s.2)) → Z Y (m_Md_greatest_L8 o h s) G0 h 8 [(0, vR ad o), (1, vI (s.1)), (2, vI (s.2))] [] := by
    intro h s hs
    refine z_loop (G := G0) (hO := fun s : Int × Int => h) (lO := fun s : Int × Int => [(0, vR ad o), (1, vI (s.1)), (2, vI (s.2))]) (Φ := fun s : Int × Int => inR (s.1) ∧ inR (s.2)) (fun G1 hin1_1 hout1 s hs => ?_) FUEL s hs
    obtain ⟨x1, x2⟩ := s
    obtain ⟨ax1, ax2⟩ := hs
    have gk1 := fun (x : Int) (y : HP) (g : G1 (.inr ((x, y)))) (q : inR x) => gk0 x y (hout1 _ g) q
    show Z Y (m_Md_greatest_L8b o h x1 x2) G1 h 8 [(0, vR ad o), (1, vI x1), (2, vI x2)] []
    unfold m_Md_greatest_L8b
    refine z_s I (s_iload_n (pc' := 9) 2 rfl D_Md_greatest_0.1.2.2.1 rfl rfl) ?_
    refine z_s I (s_iconst (pc' := 10) D_Md_greatest_0.1.2.2.2 rfl) ?_
    refine z_s I (s_aload_n (pc' := 11) 0 rfl D_Md_greatest_0.2.1.1.1 rfl rfl) ?_
    refine z_getI (pc' := 14) (jI := 1) I g_Md_123 ao rfl rfl D_Md_greatest_0.2.1.1.2 rfl (fun f1 => ?_)
    refine z_s I (s_ishl (pc' := 15) D_Md_greatest_0.2.1.2.1 rfl) ?_
    refine z_icmp_ge (tgt := 41) (pc' := 18) I ax2 (r_iShl _ _) D_Md_greatest_0.2.1.2.2 rfl rfl (fun c2 => ?_) (fun c2 => ?_)
    · refine z_s I (s_iload_n (pc' := 42) 1 rfl D_Md_greatest_1.2.2.2.1 rfl rfl) ?_
      exact z_ret (w := some (vI x1)) I (fun g => gk1 _ _ g ax1) ⟨_, rfl⟩ D_Md_greatest_1.2.2.2.2 rfl
    · refine z_s I (s_aload_n (pc' := 19) 0 rfl D_Md_greatest_0.2.2.1.1 rfl rfl) ?_
      refine z_s I (s_iload_n (pc' := 20) 2 rfl D_Md_greatest_0.2.2.1.2 rfl rfl) ?_
      refine z_b1 (fun r5 q4 => ?_)
      refine z_callV (pc' := 23) I mv_Md_isGroup ml_Md_309 (fun ad => [vI x2]) ⟨Nat.le_of_ble_eq_true rfl, Nat.le_of_ble_eq_true rfl⟩ ao (fun hh => c_Md_isGroup hw ao ax2 hh q4) rfl rfl (Nat.le_of_ble_eq_true rfl) D_Md_greatest_0.2.2.2.1 rfl (fun f3 => ?_)
      refine z_if_eq (tgt := 35) (pc' := 26) I (b01.R f3) D_Md_greatest_0.2.2.2.2 rfl rfl (fun c6 => ?_) (fun c6 => ?_)
      · refine z_s I (s_iinc (pc' := 38) (lv' := [(2, vI (w32 (x2 + 1))), (0, vR ad o), (1, vI x1)]) (n := 2) rfl D_Md_greatest_1.2.1.2 (by decide) rfl rfl) ?_
        refine z_s I (s_goto (tgt := 8) D_Md_greatest_1.2.2.1 rfl) ?_
        refine z_s I (s_lv (lv' := [(0, vR ad o), (1, vI x1), (2, vI (w32 (x2 + 1)))]) [1, 2, 0] rfl) ?_
        exact z_end (fun g => hin1_1 _ g ⟨ax1, (inR_w32 _)⟩)
      · refine z_s I (s_iload_n (pc' := 27) 1 rfl D_Md_greatest_1.1.1.1 rfl rfl) ?_
        refine z_s I (s_iload_n (pc' := 28) 2 rfl D_Md_greatest_1.1.1.2 rfl rfl) ?_
        refine z_b1 (fun r9 q8 => ?_)
        refine z_callS (pc' := 31) I mv_Jint_bitCount ml_Md_312 (fun ad => [vI x2]) ⟨Nat.le_of_ble_eq_true rfl, Nat.le_of_ble_eq_true rfl⟩ (fun hh => c_Jint_bitCount hw ax2 hh q8) rfl rfl (Nat.le_of_ble_eq_true rfl) D_Md_greatest_1.1.2.1 rfl (fun f7 => ?_)
        refine z_mmax (pc' := 34) I ax1 f7 ml_Md_317 (Nat.le_of_ble_eq_true rfl) (Nat.le_of_ble_eq_true rfl) D_Md_greatest_1.1.2.2 rfl (fun f10 => ?_)
        refine z_bI f10 (fun v11 e12 f13 => ?_)
        refine z_s I (s_istore_n (pc' := 35) (lv' := [(1, vI v11), (0, vR ad o), (2, vI x2)]) D_Md_greatest_1.2.1.1 rfl (by decide) rfl rfl) ?_
        refine z_s I (s_iinc (pc' := 38) (lv' := [(2, vI (w32 (x2 + 1))), (1, vI v11), (0, vR ad o)]) (n := 2) rfl D_Md_greatest_1.2.1.2 (by decide) rfl rfl) ?_
        refine z_s I (s_goto (tgt := 8) D_Md_greatest_1.2.2.1 rfl) ?_
        refine z_s I (s_lv (lv' := [(0, vR ad o), (1, vI v11), (2, vI (w32 (x2 + 1)))]) [2, 1, 0] rfl) ?_
        exact z_end (fun g => hin1_1 _ g ⟨f13, (inR_w32 _)⟩)
  have main : Z Y (m_Md_greatest o h) G0 h 0 [(0, vR ad o)] [] := by
    unfold m_Md_greatest
    refine z_s I (s_aload_n (pc' := 1) 0 rfl D_Md_greatest_0.1.1.1.1 rfl rfl) ?_
    refine z_b1 (fun h16 q15 => ?_)
    refine z_callV (pc' := 4) I mv_Md_binds ml_Md_306 (fun ad => []) ⟨Nat.le_of_ble_eq_true rfl, Nat.le_of_ble_eq_true rfl⟩ ao (fun hh => c_Md_binds hw ao hh q15) rfl rfl (Nat.le_of_ble_eq_true rfl) D_Md_greatest_0.1.1.1.2 rfl (fun f14 => ?_)
    refine z_s I (s_iconst (pc' := 5) D_Md_greatest_0.1.1.2.1 rfl) ?_
    refine z_s I (s_istore_n (pc' := 6) (lv' := [(1, vI 0), (0, vR ad o)]) D_Md_greatest_0.1.1.2.2 rfl (by decide) rfl rfl) ?_
    refine z_s I (s_iconst (pc' := 7) D_Md_greatest_0.1.2.1.1 rfl) ?_
    refine z_s I (s_istore_n (pc' := 8) (lv' := [(2, vI 1), (1, vI 0), (0, vR ad o)]) D_Md_greatest_0.1.2.1.2 rfl (by decide) rfl rfl) ?_
    refine z_s I (s_lv (lv' := [(0, vR ad o), (1, vI 0), (2, vI 1)]) [2, 1, 0] rfl) ?_
    exact L8 _ _ ⟨(b01.R bz0), (b01.R bz1)⟩
  exact main _ hF (by rw [hG0])
set_option maxHeartbeats 4000000 in
set_option maxRecDepth 20000 in
theorem c_Md_pairs {l : Launch} {τ : TP} {o : Int} {x1 : Int} {x2 : Int} {h : HP} {r : Int} {h' : HP} (hw : wf τ) (ao : ok τ (4, 10) o) (ax1 : inR x1) (ax2 : inR x2) (hh : hr τ h) (hF : m_Md_pairs o x1 x2 h = some (r, h')) : Ctr l y_Md_pairs k_Md_pairs 3 (Option.some FieldType.int) 10 262 τ (fun ad => [vR ad o, vI x1, vI x2]) h (some (vI r)) h' (inR r) := by
  refine ctr_of (by decide) hw hh (fun ad => Nat.le_of_ble_eq_true rfl) (fun ad K Y I hK => ?_)
  obtain ⟨G0, hG0⟩ : ∃ G : Int × HP → Prop, G = fun x => x = (r, h') := ⟨_, rfl⟩
  have gk0 : ∀ (x : Int) (y : HP), G0 (x, y) → inR x → K (some (vI x)) y := fun x y g q => by
    rw [hG0] at g
    cases g
    exact hK q
  have J34 : ∀ (h : HP), Z Y (m_Md_pairs_J34 o x1 x2 h) G0 h 34 [(0, vR ad o), (1, vI x1), (2, vI x2)] [] := by
    intro h
    unfold m_Md_pairs_J34
    refine z_s I (s_iload_n (pc' := 35) 1 rfl D_Md_pairs_1.1.1.2.2 rfl rfl) ?_
    refine z_tin (tgt := 64) I ax1 D_Md_pairs_1.1.2.1.1 0 ⟨by decide, by decide⟩ rfl rfl (fun c1 => ?_) (fun c1 => ?_)
    · refine z_s I (s_aload_n (pc' := 65) 0 rfl D_Md_pairs_1.1.2.1.2 rfl rfl) ?_
      refine z_b1 (fun h4 q3 => ?_)
      refine z_callV (pc' := 68) I mv_Md_orders ml_Md_300 (fun ad => []) ⟨Nat.le_of_ble_eq_true rfl, Nat.le_of_ble_eq_true rfl⟩ ao (fun hh => c_Md_orders hw ao hh q3) rfl rfl (Nat.le_of_ble_eq_true rfl) D_Md_pairs_1.1.2.2.1 rfl (fun f2 => ?_)
      refine z_s I (s_aload_n (pc' := 69) 0 rfl D_Md_pairs_1.1.2.2.2 rfl rfl) ?_
      refine z_getI (pc' := 72) (jI := 29) I g_Md_280 ao rfl rfl D_Md_pairs_1.2.1.1.1 rfl (fun f5 => ?_)
      exact z_ret (w := some (vI (h4 o 29))) I (fun g => gk0 _ _ g f5) ⟨_, rfl⟩ D_Md_pairs_1.2.1.1.2 rfl
    · skip
      refine z_tin (tgt := 73) I ax1 D_Md_pairs_1.1.2.1.1 1 ⟨by decide, by decide⟩ rfl rfl (fun c6 => ?_) (fun c6 => ?_)
      · refine z_s I (s_aload_n (pc' := 74) 0 rfl D_Md_pairs_1.2.1.2.1 rfl rfl) ?_
        refine z_b2 (fun r9 h10 q8 => ?_)
        refine z_callV (pc' := 77) I mv_Md_suspects ml_Md_320 (fun ad => []) ⟨Nat.le_of_ble_eq_true rfl, Nat.le_of_ble_eq_true rfl⟩ ao (fun hh => c_Md_suspects hw ao hh q8) rfl rfl (Nat.le_of_ble_eq_true rfl) D_Md_pairs_1.2.1.2.2 rfl (fun f7 => ?_)
        exact z_ret (w := some (vI r9)) I (fun g => gk0 _ _ g f7) ⟨_, rfl⟩ D_Md_pairs_1.2.2.1.1 rfl
      · skip
        refine z_tin (tgt := 78) I ax1 D_Md_pairs_1.1.2.1.1 2 ⟨by decide, by decide⟩ rfl rfl (fun c11 => ?_) (fun c11 => ?_)
        · refine z_s I (s_aload_n (pc' := 79) 0 rfl D_Md_pairs_1.2.2.1.2 rfl rfl) ?_
          refine z_s I (s_iload_n (pc' := 80) 2 rfl D_Md_pairs_1.2.2.2.1 rfl rfl) ?_
          refine z_b1 (fun r14 q13 => ?_)
          refine z_callV (pc' := 83) I mv_Md_near ml_Md_323 (fun ad => [vI x2]) ⟨Nat.le_of_ble_eq_true rfl, Nat.le_of_ble_eq_true rfl⟩ ao (fun hh => c_Md_near hw ao ax2 hh q13) rfl rfl (Nat.le_of_ble_eq_true rfl) D_Md_pairs_1.2.2.2.2 rfl (fun f12 => ?_)
          exact z_ret (w := some (vI r14)) I (fun g => gk0 _ _ g f12) ⟨_, rfl⟩ D_Md_pairs_2.1.1.1 rfl
        · skip
          refine z_tin (tgt := 84) I ax1 D_Md_pairs_1.1.2.1.1 3 ⟨by decide, by decide⟩ rfl rfl (fun c15 => ?_) (fun c15 => ?_)
          · refine z_s I (s_aload_n (pc' := 85) 0 rfl D_Md_pairs_2.1.1.2 rfl rfl) ?_
            refine z_s I (s_iconst (pc' := 86) D_Md_pairs_2.1.2.1 rfl) ?_
            refine z_b2 (fun r18 h19 q17 => ?_)
            refine z_callV (pc' := 89) I mv_Md_grouped ml_Md_326 (fun ad => [vI (-1)]) ⟨Nat.le_of_ble_eq_true rfl, Nat.le_of_ble_eq_true rfl⟩ ao (fun hh => c_Md_grouped hw ao (inR_c (x := (-1)) rfl) hh q17) rfl rfl (Nat.le_of_ble_eq_true rfl) D_Md_pairs_2.1.2.2 rfl (fun f16 => ?_)
            exact z_ret (w := some (vI r18)) I (fun g => gk0 _ _ g f16) ⟨_, rfl⟩ D_Md_pairs_2.2.1.1 rfl
          · skip
            refine z_tout (tgt := 90) I ax1 D_Md_pairs_1.1.2.1.1 (by omega) rfl ?_
            refine z_s I (s_aload_n (pc' := 91) 0 rfl D_Md_pairs_2.2.1.2 rfl rfl) ?_
            refine z_b2 (fun r22 h23 q21 => ?_)
            refine z_callV (pc' := 94) I mv_Md_greatest ml_Md_329 (fun ad => []) ⟨Nat.le_of_ble_eq_true rfl, Nat.le_of_ble_eq_true rfl⟩ ao (fun hh => c_Md_greatest hw ao hh q21) rfl rfl (Nat.le_of_ble_eq_true rfl) D_Md_pairs_2.2.2.1 rfl (fun f20 => ?_)
            exact z_ret (w := some (vI r22)) I (fun g => gk0 _ _ g f20) ⟨_, rfl⟩ D_Md_pairs_2.2.2.2 rfl
  have main : Z Y (m_Md_pairs o x1 x2 h) G0 h 0 [(0, vR ad o), (1, vI x1), (2, vI x2)] [] := by
    unfold m_Md_pairs
    refine z_s I (s_iload_n (pc' := 1) 1 rfl D_Md_pairs_0.1.1.1.1 rfl rfl) ?_
    refine z_s I (s_i2l (pc' := 2) ax1 D_Md_pairs_0.1.1.1.2 rfl) ?_
    refine z_s I (s_lconst (pc' := 3) (x := 0) D_Md_pairs_0.1.1.2.1 rfl rfl) ?_
    refine z_ldc2 (pc' := 6) (x := 4) I cl_Md_205 (by decide +kernel) D_Md_pairs_0.1.1.2.2 rfl ?_
    refine z_b1 (fun r26 q25 => ?_)
    refine z_callS (pc' := 9) I mv_Md_in ml_Md_119 (fun ad => [vL x1, vL 0, vL 4]) ⟨Nat.le_of_ble_eq_true rfl, Nat.le_of_ble_eq_true rfl⟩ (fun hh => c_Md_in hw (ax1).L (inL_c (x := 0) rfl) (inL_c (x := 4) rfl) hh q25) rfl rfl (Nat.le_of_ble_eq_true rfl) D_Md_pairs_0.1.2.1.1 rfl (fun f24 => ?_)
    refine z_if_ne (tgt := 14) (pc' := 12) I (b01.R f24) D_Md_pairs_0.1.2.1.2 rfl rfl (fun c27 => ?_) (fun c27 => ?_)
    · refine z_s I (s_iload_n (pc' := 15) 1 rfl D_Md_pairs_0.2.1.1.1 rfl rfl) ?_
      refine z_s I (s_iconst (pc' := 16) D_Md_pairs_0.2.1.1.2 rfl) ?_
      refine z_icmp_ne (tgt := 34) (pc' := 19) I ax1 (inR_c (x := 2) rfl) D_Md_pairs_0.2.1.2.1 rfl rfl (fun c28 => ?_) (fun c28 => ?_)
      · exact J34 _
      · refine z_s I (s_iload_n (pc' := 20) 2 rfl D_Md_pairs_0.2.1.2.2 rfl rfl) ?_
        refine z_s I (s_i2l (pc' := 21) ax2 D_Md_pairs_0.2.2.1.1 rfl) ?_
        refine z_s I (s_lconst (pc' := 22) (x := 0) D_Md_pairs_0.2.2.1.2 rfl rfl) ?_
        refine z_ldc2 (pc' := 25) (x := 9) I cl_Md_170 (by decide +kernel) D_Md_pairs_0.2.2.2.1 rfl ?_
        refine z_b1 (fun r31 q30 => ?_)
        refine z_callS (pc' := 28) I mv_Md_in ml_Md_119 (fun ad => [vL x2, vL 0, vL 9]) ⟨Nat.le_of_ble_eq_true rfl, Nat.le_of_ble_eq_true rfl⟩ (fun hh => c_Md_in hw (ax2).L (inL_c (x := 0) rfl) (inL_c (x := 9) rfl) hh q30) rfl rfl (Nat.le_of_ble_eq_true rfl) D_Md_pairs_0.2.2.2.2 rfl (fun f29 => ?_)
        refine z_if_ne (tgt := 34) (pc' := 31) I (b01.R f29) D_Md_pairs_1.1.1.1.1 rfl rfl (fun c32 => ?_) (fun c32 => ?_)
        · exact J34 _
        · refine z_s I (s_bipush (pc' := 33) D_Md_pairs_1.1.1.1.2 rfl rfl) ?_
          exact z_ret (w := some (vI (-2))) I (fun g => gk0 _ _ g (inR_c (x := (-2)) rfl)) ⟨_, rfl⟩ D_Md_pairs_1.1.1.2.1 rfl
    · refine z_s I (s_iconst (pc' := 13) D_Md_pairs_0.1.2.2.1 rfl) ?_
      exact z_ret (w := some (vI (-1))) I (fun g => gk0 _ _ g (inR_c (x := (-1)) rfl)) ⟨_, rfl⟩ D_Md_pairs_0.1.2.2.2 rfl
  exact main _ hF (by rw [hG0])
set_option maxHeartbeats 4000000 in
set_option maxRecDepth 20000 in
theorem c_Md_pair {l : Launch} {τ : TP} {o : Int} {x1 : Int} {x2 : Int} {h : HP} {r : Int} {h' : HP} (hw : wf τ) (ao : ok τ (4, 10) o) (ax1 : inR x1) (ax2 : inR x2) (hh : hr τ h) (hF : m_Md_pair o x1 x2 h = some (r, h')) : Ctr l y_Md_pair k_Md_pair 3 (Option.some FieldType.int) 8 218 τ (fun ad => [vR ad o, vI x1, vI x2]) h (some (vI r)) h' (inR r) := by
  refine ctr_of (by decide) hw hh (fun ad => Nat.le_of_ble_eq_true rfl) (fun ad K Y I hK => ?_)
  obtain ⟨G0, hG0⟩ : ∃ G : Int × HP → Prop, G = fun x => x = (r, h') := ⟨_, rfl⟩
  have gk0 : ∀ (x : Int) (y : HP), G0 (x, y) → inR x → K (some (vI x)) y := fun x y g q => by
    rw [hG0] at g
    cases g
    exact hK q
  have main : Z Y (m_Md_pair o x1 x2 h) G0 h 0 [(0, vR ad o), (1, vI x1), (2, vI x2)] [] := by
    unfold m_Md_pair
    refine z_s I (s_iload_n (pc' := 1) 2 rfl D_Md_pair_0.1.1.1.1 rfl rfl) ?_
    refine z_s I (s_i2l (pc' := 2) ax2 D_Md_pair_0.1.1.1.2 rfl) ?_
    refine z_s I (s_lconst (pc' := 3) (x := 0) D_Md_pair_0.1.1.2.1 rfl rfl) ?_
    refine z_ldc2 (pc' := 6) (x := 2) I cl_Md_203 (by decide +kernel) D_Md_pair_0.1.1.2.2 rfl ?_
    refine z_b1 (fun r3 q2 => ?_)
    refine z_callS (pc' := 9) I mv_Md_in ml_Md_119 (fun ad => [vL x2, vL 0, vL 2]) ⟨Nat.le_of_ble_eq_true rfl, Nat.le_of_ble_eq_true rfl⟩ (fun hh => c_Md_in hw (ax2).L (inL_c (x := 0) rfl) (inL_c (x := 2) rfl) hh q2) rfl rfl (Nat.le_of_ble_eq_true rfl) D_Md_pair_0.1.2.1.1 rfl (fun f1 => ?_)
    refine z_if_ne (tgt := 14) (pc' := 12) I (b01.R f1) D_Md_pair_0.1.2.1.2 rfl rfl (fun c4 => ?_) (fun c4 => ?_)
    · refine z_s I (s_aload_n (pc' := 15) 0 rfl D_Md_pair_0.2.1.1.1 rfl rfl) ?_
      refine z_b1 (fun h7 q6 => ?_)
      refine z_callV (pc' := 18) I mv_Md_orders ml_Md_300 (fun ad => []) ⟨Nat.le_of_ble_eq_true rfl, Nat.le_of_ble_eq_true rfl⟩ ao (fun hh => c_Md_orders hw ao hh q6) rfl rfl (Nat.le_of_ble_eq_true rfl) D_Md_pair_0.2.1.1.2 rfl (fun f5 => ?_)
      refine z_s I (s_iload_n (pc' := 19) 1 rfl D_Md_pair_0.2.1.2.1 rfl rfl) ?_
      refine z_s I (s_i2l (pc' := 20) ax1 D_Md_pair_0.2.1.2.2 rfl) ?_
      refine z_s I (s_lconst (pc' := 21) (x := 0) D_Md_pair_0.2.2.1.1 rfl rfl) ?_
      refine z_s I (s_aload_n (pc' := 22) 0 rfl D_Md_pair_0.2.2.1.2 rfl rfl) ?_
      refine z_getI (pc' := 25) (jI := 29) I g_Md_280 ao rfl rfl D_Md_pair_0.2.2.2.1 rfl (fun f8 => ?_)
      refine z_s I (s_iconst (pc' := 26) D_Md_pair_0.2.2.2.2 rfl) ?_
      refine z_s I (s_isub (pc' := 27) D_Md_pair_1.1.1.1.1 rfl) ?_
      refine z_s I (s_i2l (pc' := 28) (inR_w32 _) D_Md_pair_1.1.1.1.2 rfl) ?_
      refine z_b1 (fun r11 q10 => ?_)
      refine z_callS (pc' := 31) I mv_Md_in ml_Md_119 (fun ad => [vL x1, vL 0, vL (w32 ((h7 o 29) - 1))]) ⟨Nat.le_of_ble_eq_true rfl, Nat.le_of_ble_eq_true rfl⟩ (fun hh => c_Md_in hw (ax1).L (inL_c (x := 0) rfl) ((inR_w32 _)).L hh q10) rfl rfl (Nat.le_of_ble_eq_true rfl) D_Md_pair_1.1.1.2.1 rfl (fun f9 => ?_)
      refine z_if_ne (tgt := 37) (pc' := 34) I (b01.R f9) D_Md_pair_1.1.1.2.2 rfl rfl (fun c12 => ?_) (fun c12 => ?_)
      · refine z_s I (s_iload_n (pc' := 38) 2 rfl D_Md_pair_1.1.2.2.1 rfl rfl) ?_
        refine z_if_ne (tgt := 50) (pc' := 41) I ax2 D_Md_pair_1.1.2.2.2 rfl rfl (fun c13 => ?_) (fun c13 => ?_)
        · refine z_s I (s_iload_n (pc' := 51) 2 rfl D_Md_pair_1.2.2.1.2 rfl rfl) ?_
          refine z_s I (s_iconst (pc' := 52) D_Md_pair_1.2.2.2.1 rfl) ?_
          refine z_icmp_ne (tgt := 64) (pc' := 55) I ax2 (b01.R bz1) D_Md_pair_1.2.2.2.2 rfl rfl (fun c14 => ?_) (fun c14 => ?_)
          · refine z_s I (s_aload_n (pc' := 65) 0 rfl D_Md_pair_2.1.2.2.1 rfl rfl) ?_
            refine z_getR (pc' := 68) (eI := o + 22) I g_Md_80 ao rfl (by omega) D_Md_pair_2.1.2.2.2 rfl ?_
            have k15 : ok τ (2, 28) (o + 22) := r_Md_isSuspect hw ao (by omega)
            refine z_s I (s_iload_n (pc' := 69) 1 rfl D_Md_pair_2.2.1.1 rfl rfl) ?_
            refine z_bald (pc' := 70) (nI := 28) I k15 ax1 rfl D_Md_pair_2.2.1.2.1 rfl (fun c16 f17 => ?_)
            refine z_if_eq (tgt := 77) (pc' := 73) I (b01.R f17) D_Md_pair_2.2.1.2.2 rfl rfl (fun c18 => ?_) (fun c18 => ?_)
            · refine z_s I (s_iconst (pc' := 78) D_Md_pair_2.2.2.2.1 rfl) ?_
              exact z_ret (w := some (vI 0)) I (fun g => gk0 _ _ g (b01.R bz0)) ⟨_, rfl⟩ D_Md_pair_2.2.2.2.2 rfl
            · refine z_s I (s_iconst (pc' := 74) D_Md_pair_2.2.2.1.1 rfl) ?_
              refine z_s I (s_goto (tgt := 78) D_Md_pair_2.2.2.1.2 rfl) ?_
              exact z_ret (w := some (vI 1)) I (fun g => gk0 _ _ g (b01.R bz1)) ⟨_, rfl⟩ D_Md_pair_2.2.2.2.2 rfl
          · refine z_s I (s_aload_n (pc' := 56) 0 rfl D_Md_pair_2.1.1.1 rfl rfl) ?_
            refine z_getR (pc' := 59) (eI := o + 19) I g_Md_71 ao rfl (by omega) D_Md_pair_2.1.1.2.1 rfl ?_
            have k19 : ok τ (0, 28) (o + 19) := r_Md_pairY hw ao (by omega)
            refine z_s I (s_iload_n (pc' := 60) 1 rfl D_Md_pair_2.1.1.2.2 rfl rfl) ?_
            refine z_iald (pc' := 61) (nI := 28) I k19 ax1 rfl D_Md_pair_2.1.2.1.1 rfl (fun c20 f21 => ?_)
            refine z_s I (s_goto (tgt := 78) D_Md_pair_2.1.2.1.2 rfl) ?_
            exact z_ret (w := some (vI (h7 (o + 19) x1))) I (fun g => gk0 _ _ g f21) ⟨_, rfl⟩ D_Md_pair_2.2.2.2.2 rfl
        · refine z_s I (s_aload_n (pc' := 42) 0 rfl D_Md_pair_1.2.1.1.1 rfl rfl) ?_
          refine z_getR (pc' := 45) (eI := o + 18) I g_Md_68 ao rfl (by omega) D_Md_pair_1.2.1.1.2 rfl ?_
          have k22 : ok τ (0, 28) (o + 18) := r_Md_pairX hw ao (by omega)
          refine z_s I (s_iload_n (pc' := 46) 1 rfl D_Md_pair_1.2.1.2.1 rfl rfl) ?_
          refine z_iald (pc' := 47) (nI := 28) I k22 ax1 rfl D_Md_pair_1.2.1.2.2 rfl (fun c23 f24 => ?_)
          refine z_s I (s_goto (tgt := 78) D_Md_pair_1.2.2.1.1 rfl) ?_
          exact z_ret (w := some (vI (h7 (o + 18) x1))) I (fun g => gk0 _ _ g f24) ⟨_, rfl⟩ D_Md_pair_2.2.2.2.2 rfl
      · refine z_s I (s_bipush (pc' := 36) D_Md_pair_1.1.2.1.1 rfl rfl) ?_
        exact z_ret (w := some (vI (-2))) I (fun g => gk0 _ _ g (inR_c (x := (-2)) rfl)) ⟨_, rfl⟩ D_Md_pair_1.1.2.1.2 rfl
    · refine z_s I (s_iconst (pc' := 13) D_Md_pair_0.1.2.2.1 rfl) ?_
      exact z_ret (w := some (vI (-1))) I (fun g => gk0 _ _ g (inR_c (x := (-1)) rfl)) ⟨_, rfl⟩ D_Md_pair_0.1.2.2.2 rfl
  exact main _ hF (by rw [hG0])
set_option maxHeartbeats 4000000 in
set_option maxRecDepth 20000 in
theorem c_Md_pairOdds {l : Launch} {τ : TP} {o : Int} {x1 : Int} {x2 : Int} {h : HP} {r : Int} {h' : HP} (hw : wf τ) (ao : ok τ (4, 10) o) (ax1 : inR x1) (ax2 : inR x2) (hh : hr τ h) (hF : m_Md_pairOdds o x1 x2 h = some (r, h')) : Ctr l y_Md_pairOdds k_Md_pairOdds 3 (Option.some FieldType.long) 8 218 τ (fun ad => [vR ad o, vI x1, vI x2]) h (some (vL r)) h' (inL r) := by
  refine ctr_of (by decide) hw hh (fun ad => Nat.le_of_ble_eq_true rfl) (fun ad K Y I hK => ?_)
  obtain ⟨G0, hG0⟩ : ∃ G : Int × HP → Prop, G = fun x => x = (r, h') := ⟨_, rfl⟩
  have gk0 : ∀ (x : Int) (y : HP), G0 (x, y) → inL x → K (some (vL x)) y := fun x y g q => by
    rw [hG0] at g
    cases g
    exact hK q
  have main : Z Y (m_Md_pairOdds o x1 x2 h) G0 h 0 [(0, vR ad o), (1, vI x1), (2, vI x2)] [] := by
    unfold m_Md_pairOdds
    refine z_s I (s_iload_n (pc' := 1) 2 rfl D_Md_pairOdds_0.1.1.1.1 rfl rfl) ?_
    refine z_s I (s_i2l (pc' := 2) ax2 D_Md_pairOdds_0.1.1.1.2 rfl) ?_
    refine z_s I (s_lconst (pc' := 3) (x := 0) D_Md_pairOdds_0.1.1.2.1 rfl rfl) ?_
    refine z_s I (s_lconst (pc' := 4) (x := 1) D_Md_pairOdds_0.1.1.2.2 rfl rfl) ?_
    refine z_b1 (fun r3 q2 => ?_)
    refine z_callS (pc' := 7) I mv_Md_in ml_Md_119 (fun ad => [vL x2, vL 0, vL 1]) ⟨Nat.le_of_ble_eq_true rfl, Nat.le_of_ble_eq_true rfl⟩ (fun hh => c_Md_in hw (ax2).L (inL_c (x := 0) rfl) (inL_c (x := 1) rfl) hh q2) rfl rfl (Nat.le_of_ble_eq_true rfl) D_Md_pairOdds_0.1.2.1.1 rfl (fun f1 => ?_)
    refine z_if_ne (tgt := 14) (pc' := 10) I (b01.R f1) D_Md_pairOdds_0.1.2.1.2 rfl rfl (fun c4 => ?_) (fun c4 => ?_)
    · refine z_s I (s_aload_n (pc' := 15) 0 rfl D_Md_pairOdds_0.2.1.1.1 rfl rfl) ?_
      refine z_b1 (fun h7 q6 => ?_)
      refine z_callV (pc' := 18) I mv_Md_orders ml_Md_300 (fun ad => []) ⟨Nat.le_of_ble_eq_true rfl, Nat.le_of_ble_eq_true rfl⟩ ao (fun hh => c_Md_orders hw ao hh q6) rfl rfl (Nat.le_of_ble_eq_true rfl) D_Md_pairOdds_0.2.1.1.2 rfl (fun f5 => ?_)
      refine z_s I (s_iload_n (pc' := 19) 1 rfl D_Md_pairOdds_0.2.1.2.1 rfl rfl) ?_
      refine z_s I (s_i2l (pc' := 20) ax1 D_Md_pairOdds_0.2.1.2.2 rfl) ?_
      refine z_s I (s_lconst (pc' := 21) (x := 0) D_Md_pairOdds_0.2.2.1.1 rfl rfl) ?_
      refine z_s I (s_aload_n (pc' := 22) 0 rfl D_Md_pairOdds_0.2.2.1.2 rfl rfl) ?_
      refine z_getI (pc' := 25) (jI := 29) I g_Md_280 ao rfl rfl D_Md_pairOdds_0.2.2.2.1 rfl (fun f8 => ?_)
      refine z_s I (s_iconst (pc' := 26) D_Md_pairOdds_0.2.2.2.2 rfl) ?_
      refine z_s I (s_isub (pc' := 27) D_Md_pairOdds_1.1.1.1.1 rfl) ?_
      refine z_s I (s_i2l (pc' := 28) (inR_w32 _) D_Md_pairOdds_1.1.1.1.2 rfl) ?_
      refine z_b1 (fun r11 q10 => ?_)
      refine z_callS (pc' := 31) I mv_Md_in ml_Md_119 (fun ad => [vL x1, vL 0, vL (w32 ((h7 o 29) - 1))]) ⟨Nat.le_of_ble_eq_true rfl, Nat.le_of_ble_eq_true rfl⟩ (fun hh => c_Md_in hw (ax1).L (inL_c (x := 0) rfl) ((inR_w32 _)).L hh q10) rfl rfl (Nat.le_of_ble_eq_true rfl) D_Md_pairOdds_1.1.1.2.1 rfl (fun f9 => ?_)
      refine z_if_eq (tgt := 53) (pc' := 34) I (b01.R f9) D_Md_pairOdds_1.1.1.2.2 rfl rfl (fun c12 => ?_) (fun c12 => ?_)
      · refine z_ldc2 (pc' := 56) (x := (-9223372036854775808)) I cl_Md_259 (by decide +kernel) D_Md_pairOdds_1.2.2.2.2 rfl ?_
        exact z_ret (w := some (vL (-9223372036854775808))) I (fun g => gk0 _ _ g (inL_c (x := (-9223372036854775808)) rfl)) ⟨_, rfl⟩ D_Md_pairOdds_2 rfl
      · refine z_s I (s_aload_n (pc' := 35) 0 rfl D_Md_pairOdds_1.1.2.1.1 rfl rfl) ?_
        refine z_getR (pc' := 38) (eI := o + 20) I g_Md_74 ao rfl (by omega) D_Md_pairOdds_1.1.2.1.2 rfl ?_
        have k13 : ok τ (1, 28) (o + 20) := r_Md_above hw ao (by omega)
        refine z_s I (s_iload_n (pc' := 39) 1 rfl D_Md_pairOdds_1.1.2.2.1 rfl rfl) ?_
        refine z_lald (pc' := 40) (nI := 28) I k13 ax1 rfl D_Md_pairOdds_1.1.2.2.2 rfl (fun c14 f15 => ?_)
        refine z_s I (s_aload_n (pc' := 41) 0 rfl D_Md_pairOdds_1.2.1.1.1 rfl rfl) ?_
        refine z_getR (pc' := 44) (eI := o + 21) I g_Md_77 ao rfl (by omega) D_Md_pairOdds_1.2.1.1.2 rfl ?_
        have k16 : ok τ (1, 28) (o + 21) := r_Md_under hw ao (by omega)
        refine z_s I (s_iload_n (pc' := 45) 1 rfl D_Md_pairOdds_1.2.1.2.1 rfl rfl) ?_
        refine z_lald (pc' := 46) (nI := 28) I k16 ax1 rfl D_Md_pairOdds_1.2.1.2.2 rfl (fun c17 f18 => ?_)
        refine z_s I (s_iload_n (pc' := 47) 2 rfl D_Md_pairOdds_1.2.2.1.1 rfl rfl) ?_
        refine z_b1 (fun r21 q20 => ?_)
        refine z_callS (pc' := 50) I mv_Md_lowest ml_Md_265 (fun ad => [vL (h7 (o + 20) x1), vL (h7 (o + 21) x1), vI x2]) ⟨Nat.le_of_ble_eq_true rfl, Nat.le_of_ble_eq_true rfl⟩ (fun hh => c_Md_lowest hw f15 f18 ax2 hh q20) rfl rfl (Nat.le_of_ble_eq_true rfl) D_Md_pairOdds_1.2.2.1.2 rfl (fun f19 => ?_)
        refine z_s I (s_goto (tgt := 56) D_Md_pairOdds_1.2.2.2.1 rfl) ?_
        exact z_ret (w := some (vL r21)) I (fun g => gk0 _ _ g f19) ⟨_, rfl⟩ D_Md_pairOdds_2 rfl
    · refine z_ldc2 (pc' := 13) (x := (-9223372036854775808)) I cl_Md_259 (by decide +kernel) D_Md_pairOdds_0.1.2.2.1 rfl ?_
      exact z_ret (w := some (vL (-9223372036854775808))) I (fun g => gk0 _ _ g (inL_c (x := (-9223372036854775808)) rfl)) ⟨_, rfl⟩ D_Md_pairOdds_0.1.2.2.2 rfl
  exact main _ hF (by rw [hG0])
set_option maxHeartbeats 4000000 in
set_option maxRecDepth 20000 in
theorem c_Md_ranked {l : Launch} {τ : TP} {o : Int} {x1 : Int} {x2 : Int} {h : HP} {r : Int} (hw : wf τ) (ao : ok τ (4, 10) o) (ax1 : inR x1) (ax2 : inR x2) (hh : hr τ h) (hF : m_Md_ranked o x1 x2 h = some r) : Ctr l y_Md_ranked k_Md_ranked 4 (Option.some FieldType.int) 1 21 τ (fun ad => [vR ad o, vI x1, vI x2]) h (some (vI r)) h (inR r) := by
  refine ctr_of (by decide) hw hh (fun ad => Nat.le_of_ble_eq_true rfl) (fun ad K Y I hK => ?_)
  obtain ⟨G0, hG0⟩ : ∃ G : Int → Prop, G = fun x => x = r := ⟨_, rfl⟩
  have gk0 : ∀ (x : Int), G0 x → inR x → K (some (vI x)) h := fun x g q => by
    rw [hG0] at g
    cases g
    exact hK q
  have L2 : ∀ (s : Int), (inR s) → Z Y (m_Md_ranked_L2 o x1 x2 h s) G0 h 2 [(0, vR ad o), (1, vI x1), (2, vI x2), (3, vI s)] [] := by
    intro s hs
    refine z_loop (G := G0) (hO := fun s : Int => h) (lO := fun s : Int => [(0, vR ad o), (1, vI x1), (2, vI x2), (3, vI s)]) (Φ := fun s : Int => inR s) (fun G1 hin1_1 hout1 s hs => ?_) FUEL s hs
    obtain ⟨x3, rfl⟩ : ∃ z, z = s := ⟨_, rfl⟩
    have ax3 := hs
    have gk1 := fun (x : Int) (g : G1 (.inr (x))) (q : inR x) => gk0 x (hout1 _ g) q
    show Z Y (m_Md_ranked_L2b o x1 x2 h x3) G1 h 2 [(0, vR ad o), (1, vI x1), (2, vI x2), (3, vI x3)] []
    unfold m_Md_ranked_L2b
    refine z_s I (s_iload_n (pc' := 3) 3 rfl D_Md_ranked_0.1.1.2.1 rfl rfl) ?_
    refine z_s I (s_aload_n (pc' := 4) 0 rfl D_Md_ranked_0.1.1.2.2 rfl rfl) ?_
    refine z_getI (pc' := 7) (jI := 29) I g_Md_280 ao rfl rfl D_Md_ranked_0.1.2.1.1 rfl (fun f1 => ?_)
    refine z_icmp_ge (tgt := 46) (pc' := 10) I ax3 f1 D_Md_ranked_0.1.2.1.2 rfl rfl (fun c2 => ?_) (fun c2 => ?_)
    · refine z_s I (s_bipush (pc' := 48) D_Md_ranked_1.2.2.2.1 rfl rfl) ?_
      exact z_ret (w := some (vI (-5))) I (fun g => gk1 _ g (inR_c (x := (-5)) rfl)) ⟨_, rfl⟩ D_Md_ranked_1.2.2.2.2 rfl
    · refine z_s I (s_aload_n (pc' := 11) 0 rfl D_Md_ranked_0.1.2.2.1 rfl rfl) ?_
      refine z_getR (pc' := 14) (eI := o + 18) I g_Md_68 ao rfl (by omega) D_Md_ranked_0.1.2.2.2 rfl ?_
      have k3 : ok τ (0, 28) (o + 18) := r_Md_pairX hw ao (by omega)
      refine z_s I (s_iload_n (pc' := 15) 3 rfl D_Md_ranked_0.2.1.1.1 rfl rfl) ?_
      refine z_iald (pc' := 16) (nI := 28) I k3 ax3 rfl D_Md_ranked_0.2.1.1.2 rfl (fun c4 f5 => ?_)
      refine z_s I (s_iload_n (pc' := 17) 1 rfl D_Md_ranked_0.2.1.2.1 rfl rfl) ?_
      refine z_s I (s_iload_n (pc' := 18) 2 rfl D_Md_ranked_0.2.1.2.2 rfl rfl) ?_
      refine z_mmin (pc' := 21) I ax1 ax2 ml_Md_332 (Nat.le_of_ble_eq_true rfl) (Nat.le_of_ble_eq_true rfl) D_Md_ranked_0.2.2.1.1 rfl (fun f6 => ?_)
      refine z_bI f6 (fun v7 e8 f9 => ?_)
      refine z_icmp_ne (tgt := 40) (pc' := 24) I f5 f9 D_Md_ranked_0.2.2.1.2 rfl rfl (fun c10 => ?_) (fun c10 => ?_)
      · refine z_s I (s_iinc (pc' := 43) (lv' := [(3, vI (w32 (x3 + 1))), (0, vR ad o), (1, vI x1), (2, vI x2)]) (n := 3) rfl D_Md_ranked_1.2.1.2.2 (by decide) rfl rfl) ?_
        refine z_s I (s_goto (tgt := 2) D_Md_ranked_1.2.2.1 rfl) ?_
        refine z_s I (s_lv (lv' := [(0, vR ad o), (1, vI x1), (2, vI x2), (3, vI (w32 (x3 + 1)))]) [1, 2, 3, 0] rfl) ?_
        exact z_end (fun g => hin1_1 _ g (inR_w32 _))
      · refine z_s I (s_aload_n (pc' := 25) 0 rfl D_Md_ranked_0.2.2.2.1 rfl rfl) ?_
        refine z_getR (pc' := 28) (eI := o + 19) I g_Md_71 ao rfl (by omega) D_Md_ranked_0.2.2.2.2 rfl ?_
        have k11 : ok τ (0, 28) (o + 19) := r_Md_pairY hw ao (by omega)
        refine z_s I (s_iload_n (pc' := 29) 3 rfl D_Md_ranked_1.1.1.1 rfl rfl) ?_
        refine z_iald (pc' := 30) (nI := 28) I k11 ax3 rfl D_Md_ranked_1.1.1.2.1 rfl (fun c12 f13 => ?_)
        refine z_s I (s_iload_n (pc' := 31) 1 rfl D_Md_ranked_1.1.1.2.2 rfl rfl) ?_
        refine z_s I (s_iload_n (pc' := 32) 2 rfl D_Md_ranked_1.1.2.1 rfl rfl) ?_
        refine z_mmax (pc' := 35) I ax1 ax2 ml_Md_317 (Nat.le_of_ble_eq_true rfl) (Nat.le_of_ble_eq_true rfl) D_Md_ranked_1.1.2.2.1 rfl (fun f14 => ?_)
        refine z_bI f14 (fun v15 e16 f17 => ?_)
        refine z_icmp_ne (tgt := 40) (pc' := 38) I f13 f17 D_Md_ranked_1.1.2.2.2 rfl rfl (fun c18 => ?_) (fun c18 => ?_)
        · refine z_s I (s_iinc (pc' := 43) (lv' := [(3, vI (w32 (x3 + 1))), (0, vR ad o), (1, vI x1), (2, vI x2)]) (n := 3) rfl D_Md_ranked_1.2.1.2.2 (by decide) rfl rfl) ?_
          refine z_s I (s_goto (tgt := 2) D_Md_ranked_1.2.2.1 rfl) ?_
          refine z_s I (s_lv (lv' := [(0, vR ad o), (1, vI x1), (2, vI x2), (3, vI (w32 (x3 + 1)))]) [1, 2, 3, 0] rfl) ?_
          exact z_end (fun g => hin1_1 _ g (inR_w32 _))
        · refine z_s I (s_iload_n (pc' := 39) 3 rfl D_Md_ranked_1.2.1.1 rfl rfl) ?_
          exact z_ret (w := some (vI x3)) I (fun g => gk1 _ g ax3) ⟨_, rfl⟩ D_Md_ranked_1.2.1.2.1 rfl
  have main : Z Y (m_Md_ranked o x1 x2 h) G0 h 0 [(0, vR ad o), (1, vI x1), (2, vI x2)] [] := by
    unfold m_Md_ranked
    refine z_s I (s_iconst (pc' := 1) D_Md_ranked_0.1.1.1.1 rfl) ?_
    refine z_s I (s_istore_n (pc' := 2) (lv' := [(3, vI 0), (0, vR ad o), (1, vI x1), (2, vI x2)]) D_Md_ranked_0.1.1.1.2 rfl (by decide) rfl rfl) ?_
    refine z_s I (s_lv (lv' := [(0, vR ad o), (1, vI x1), (2, vI x2), (3, vI 0)]) [1, 2, 3, 0] rfl) ?_
    exact L2 _ (b01.R bz0)
  exact main _ hF (by rw [hG0])
set_option maxHeartbeats 4000000 in
set_option maxRecDepth 20000 in
theorem c_Md_rank {l : Launch} {τ : TP} {o : Int} {x1 : Int} {x2 : Int} {h : HP} {r : Int} {h' : HP} (hw : wf τ) (ao : ok τ (4, 10) o) (ax1 : inR x1) (ax2 : inR x2) (hh : hr τ h) (hF : m_Md_rank o x1 x2 h = some (r, h')) : Ctr l y_Md_rank k_Md_rank 3 (Option.some FieldType.int) 8 218 τ (fun ad => [vR ad o, vI x1, vI x2]) h (some (vI r)) h' (inR r) := by
  refine ctr_of (by decide) hw hh (fun ad => Nat.le_of_ble_eq_true rfl) (fun ad K Y I hK => ?_)
  obtain ⟨G0, hG0⟩ : ∃ G : Int × HP → Prop, G = fun x => x = (r, h') := ⟨_, rfl⟩
  have gk0 : ∀ (x : Int) (y : HP), G0 (x, y) → inR x → K (some (vI x)) y := fun x y g q => by
    rw [hG0] at g
    cases g
    exact hK q
  have main : Z Y (m_Md_rank o x1 x2 h) G0 h 0 [(0, vR ad o), (1, vI x1), (2, vI x2)] [] := by
    unfold m_Md_rank
    refine z_s I (s_aload_n (pc' := 1) 0 rfl D_Md_rank_0.1.1.1 rfl rfl) ?_
    refine z_s I (s_iload_n (pc' := 2) 1 rfl D_Md_rank_0.1.1.2.1 rfl rfl) ?_
    refine z_s I (s_iload_n (pc' := 3) 2 rfl D_Md_rank_0.1.1.2.2 rfl rfl) ?_
    refine z_b1 (fun r3 q2 => ?_)
    refine z_callV (pc' := 6) I mv_Md_isTwo ml_Md_230 (fun ad => [vI x1, vI x2]) ⟨Nat.le_of_ble_eq_true rfl, Nat.le_of_ble_eq_true rfl⟩ ao (fun hh => c_Md_isTwo hw ao ax1 ax2 hh q2) rfl rfl (Nat.le_of_ble_eq_true rfl) D_Md_rank_0.1.2.1.1 rfl (fun f1 => ?_)
    refine z_if_ne (tgt := 11) (pc' := 9) I (b01.R f1) D_Md_rank_0.1.2.1.2 rfl rfl (fun c4 => ?_) (fun c4 => ?_)
    · refine z_s I (s_aload_n (pc' := 12) 0 rfl D_Md_rank_0.2.1.1 rfl rfl) ?_
      refine z_b1 (fun h7 q6 => ?_)
      refine z_callV (pc' := 15) I mv_Md_orders ml_Md_300 (fun ad => []) ⟨Nat.le_of_ble_eq_true rfl, Nat.le_of_ble_eq_true rfl⟩ ao (fun hh => c_Md_orders hw ao hh q6) rfl rfl (Nat.le_of_ble_eq_true rfl) D_Md_rank_0.2.1.2.1 rfl (fun f5 => ?_)
      refine z_s I (s_aload_n (pc' := 16) 0 rfl D_Md_rank_0.2.1.2.2 rfl rfl) ?_
      refine z_s I (s_iload_n (pc' := 17) 1 rfl D_Md_rank_0.2.2.1.1 rfl rfl) ?_
      refine z_s I (s_iload_n (pc' := 18) 2 rfl D_Md_rank_0.2.2.1.2 rfl rfl) ?_
      refine z_b1 (fun r10 q9 => ?_)
      refine z_callV (pc' := 21) I mv_Md_ranked ml_Md_335 (fun ad => [vI x1, vI x2]) ⟨Nat.le_of_ble_eq_true rfl, Nat.le_of_ble_eq_true rfl⟩ ao (fun hh => c_Md_ranked hw ao ax1 ax2 hh q9) rfl rfl (Nat.le_of_ble_eq_true rfl) D_Md_rank_0.2.2.2.1 rfl (fun f8 => ?_)
      exact z_ret (w := some (vI r10)) I (fun g => gk0 _ _ g f8) ⟨_, rfl⟩ D_Md_rank_0.2.2.2.2 rfl
    · refine z_s I (s_iconst (pc' := 10) D_Md_rank_0.1.2.2.1 rfl) ?_
      exact z_ret (w := some (vI (-1))) I (fun g => gk0 _ _ g (inR_c (x := (-1)) rfl)) ⟨_, rfl⟩ D_Md_rank_0.1.2.2.2 rfl
  exact main _ hF (by rw [hG0])
set_option maxHeartbeats 4000000 in
set_option maxRecDepth 20000 in
theorem c_Md_linked {l : Launch} {τ : TP} {o : Int} {x1 : Int} {h : HP} {r : Int} {h' : HP} (hw : wf τ) (ao : ok τ (4, 10) o) (ax1 : inR x1) (hh : hr τ h) (hF : m_Md_linked o x1 h = some (r, h')) : Ctr l y_Md_linked k_Md_linked 2 (Option.some FieldType.int) 9 239 τ (fun ad => [vR ad o, vI x1]) h (some (vI r)) h' (inR r) := by
  refine ctr_of (by decide) hw hh (fun ad => Nat.le_of_ble_eq_true rfl) (fun ad K Y I hK => ?_)
  obtain ⟨G0, hG0⟩ : ∃ G : Int × HP → Prop, G = fun x => x = (r, h') := ⟨_, rfl⟩
  have gk0 : ∀ (x : Int) (y : HP), G0 (x, y) → inR x → K (some (vI x)) y := fun x y g q => by
    rw [hG0] at g
    cases g
    exact hK q
  have main : Z Y (m_Md_linked o x1 h) G0 h 0 [(0, vR ad o), (1, vI x1)] [] := by
    unfold m_Md_linked
    refine z_s I (s_aload_n (pc' := 1) 0 rfl D_Md_linked_0.1.1.1 rfl rfl) ?_
    refine z_s I (s_iload_n (pc' := 2) 1 rfl D_Md_linked_0.1.1.2.1 rfl rfl) ?_
    refine z_b1 (fun r3 q2 => ?_)
    refine z_callV (pc' := 5) I mv_Md_isOne ml_Md_126 (fun ad => [vI x1]) ⟨Nat.le_of_ble_eq_true rfl, Nat.le_of_ble_eq_true rfl⟩ ao (fun hh => c_Md_isOne hw ao ax1 hh q2) rfl rfl (Nat.le_of_ble_eq_true rfl) D_Md_linked_0.1.1.2.2 rfl (fun f1 => ?_)
    refine z_if_ne (tgt := 10) (pc' := 8) I (b01.R f1) D_Md_linked_0.1.2.1 rfl rfl (fun c4 => ?_) (fun c4 => ?_)
    · refine z_s I (s_aload_n (pc' := 11) 0 rfl D_Md_linked_0.2.1.1 rfl rfl) ?_
      refine z_b1 (fun h7 q6 => ?_)
      refine z_callV (pc' := 14) I mv_Md_binds ml_Md_306 (fun ad => []) ⟨Nat.le_of_ble_eq_true rfl, Nat.le_of_ble_eq_true rfl⟩ ao (fun hh => c_Md_binds hw ao hh q6) rfl rfl (Nat.le_of_ble_eq_true rfl) D_Md_linked_0.2.1.2.1 rfl (fun f5 => ?_)
      refine z_s I (s_aload_n (pc' := 15) 0 rfl D_Md_linked_0.2.1.2.2 rfl rfl) ?_
      refine z_getR (pc' := 18) (eI := o + 23) I g_Md_84 ao rfl (by omega) D_Md_linked_0.2.2.1.1 rfl ?_
      have k8 : ok τ (0, 8) (o + 23) := r_Md_links hw ao (by omega)
      refine z_s I (s_iload_n (pc' := 19) 1 rfl D_Md_linked_0.2.2.1.2 rfl rfl) ?_
      refine z_iald (pc' := 20) (nI := 8) I k8 ax1 rfl D_Md_linked_0.2.2.2.1 rfl (fun c9 f10 => ?_)
      exact z_ret (w := some (vI (h7 (o + 23) x1))) I (fun g => gk0 _ _ g f10) ⟨_, rfl⟩ D_Md_linked_0.2.2.2.2 rfl
    · refine z_s I (s_iconst (pc' := 9) D_Md_linked_0.1.2.2.1 rfl) ?_
      exact z_ret (w := some (vI (-1))) I (fun g => gk0 _ _ g (inR_c (x := (-1)) rfl)) ⟨_, rfl⟩ D_Md_linked_0.1.2.2.2 rfl
  exact main _ hF (by rw [hG0])
set_option maxHeartbeats 4000000 in
set_option maxRecDepth 20000 in
theorem c_Md_chain {l : Launch} {τ : TP} {o : Int} {x1 : Int} {h : HP} {r : Int} {h' : HP} (hw : wf τ) (ao : ok τ (4, 10) o) (ax1 : inR x1) (hh : hr τ h) (hF : m_Md_chain o x1 h = some (r, h')) : Ctr l y_Md_chain k_Md_chain 5 (Option.some FieldType.int) 9 239 τ (fun ad => [vR ad o, vI x1]) h (some (vI r)) h' (inR r) := by
  refine ctr_of (by decide) hw hh (fun ad => Nat.le_of_ble_eq_true rfl) (fun ad K Y I hK => ?_)
  obtain ⟨G0, hG0⟩ : ∃ G : Int × HP → Prop, G = fun x => x = (r, h') := ⟨_, rfl⟩
  have gk0 : ∀ (x : Int) (y : HP), G0 (x, y) → inR x → K (some (vI x)) y := fun x y g q => by
    rw [hG0] at g
    cases g
    exact hK q
  have L20 : ∀ (h : HP) (s : Int × Int), (inR (s.1) ∧ inR (s.2)) → Z Y (m_Md_chain_L20 o h s) G0 h 20 [(0, vR ad o), (2, vI (s.1)), (3, vI (s.2))] [] := by
    intro h s hs
    refine z_loop (G := G0) (hO := fun s : Int × Int => h) (lO := fun s : Int × Int => [(0, vR ad o), (2, vI (s.1)), (3, vI (s.2))]) (Φ := fun s : Int × Int => inR (s.1) ∧ inR (s.2)) (fun G1 hin1_1 hout1 s hs => ?_) FUEL s hs
    obtain ⟨x2, x3⟩ := s
    obtain ⟨ax2, ax3⟩ := hs
    have gk1 := fun (x : Int) (y : HP) (g : G1 (.inr ((x, y)))) (q : inR x) => gk0 x y (hout1 _ g) q
    have L30 : ∀ (x3 : Int) (ax3 : inR x3) (s : Int × Int), (inR (s.1) ∧ inR (s.2)) → Z Y (m_Md_chain_L30 o x3 h s) G1 h 30 [(0, vR ad o), (3, vI x3), (2, vI (s.1)), (4, vI (s.2))] [] := by
      intro x3 ax3 s hs
      refine z_loop (G := G1) (hO := fun s : Int × Int => h) (lO := fun s : Int × Int => [(0, vR ad o), (3, vI x3), (2, vI (s.1)), (4, vI (s.2))]) (Φ := fun s : Int × Int => inR (s.1) ∧ inR (s.2)) (fun G2 hin2_2 hout2 s hs => ?_) FUEL s hs
      obtain ⟨x2, x4⟩ := s
      obtain ⟨ax2, ax4⟩ := hs
      have hin1_2 := fun (s' : Int × Int) (g : G2 (.inr (.inl s'))) => hin1_1 s' (hout2 _ g)
      have gk2 := fun (x : Int) (y : HP) (g : G2 (.inr (.inr ((x, y))))) (q : inR x) => gk1 x y (hout2 _ g) q
      show Z Y (m_Md_chain_L30b o x3 h x2 x4) G2 h 30 [(0, vR ad o), (3, vI x3), (2, vI x2), (4, vI x4)] []
      unfold m_Md_chain_L30b
      refine z_s I (s_iload (pc' := 32) 3 rfl D_Md_chain_1.1.2.1.2 rfl) ?_
      refine z_s I (s_aload_n (pc' := 33) 0 rfl D_Md_chain_1.1.2.2.1 rfl rfl) ?_
      refine z_getI (pc' := 36) (jI := 1) I g_Md_123 ao rfl rfl D_Md_chain_1.1.2.2.2 rfl (fun f1 => ?_)
      refine z_icmp_ge (tgt := 69) (pc' := 39) I ax4 f1 D_Md_chain_1.2.1.1.1 rfl rfl (fun c2 => ?_) (fun c2 => ?_)
      · refine z_s I (s_goto (tgt := 20) D_Md_chain_2.2.2.1.2 rfl) ?_
        refine z_s I (s_lv (lv' := [(0, vR ad o), (2, vI x2), (3, vI x3)]) [0, 2, 1] rfl) ?_
        exact z_end (fun g => hin1_2 _ g ⟨ax2, ax3⟩)
      · refine z_s I (s_iload_n (pc' := 40) 2 rfl D_Md_chain_1.2.1.1.2 rfl rfl) ?_
        refine z_s I (s_iload_n (pc' := 41) 2 rfl D_Md_chain_1.2.1.2.1 rfl rfl) ?_
        refine z_s I (s_iload (pc' := 43) 3 rfl D_Md_chain_1.2.1.2.2 rfl) ?_
        refine z_s I (s_ishr (pc' := 44) D_Md_chain_1.2.2.1.1 rfl) ?_
        refine z_s I (s_iconst (pc' := 45) D_Md_chain_1.2.2.1.2 rfl) ?_
        refine z_s I (s_iand (pc' := 46) D_Md_chain_1.2.2.2.1 rfl) ?_
        refine z_s I (s_iconst (pc' := 47) D_Md_chain_1.2.2.2.2 rfl) ?_
        refine z_icmp_ne (tgt := 60) (pc' := 50) I (r_iAnd _ _) (b01.R bz1) D_Md_chain_2.1.1.1 rfl rfl (fun c3 => ?_) (fun c3 => ?_)
        · refine z_s I (s_iconst (pc' := 61) D_Md_chain_2.1.2.2.2 rfl) ?_
          refine z_s I (s_ior (pc' := 62) D_Md_chain_2.2.1.1 rfl) ?_
          refine z_bI (r_iOr _ _) (fun v4 e5 f6 => ?_)
          refine z_s I (s_istore_n (pc' := 63) (lv' := [(2, vI v4), (0, vR ad o), (3, vI x3), (4, vI x4)]) D_Md_chain_2.2.1.2.1 rfl (by decide) rfl rfl) ?_
          refine z_s I (s_iinc (pc' := 66) (lv' := [(4, vI (w32 (x4 + 1))), (2, vI v4), (0, vR ad o), (3, vI x3)]) (n := 3) rfl D_Md_chain_2.2.1.2.2 (by decide) rfl rfl) ?_
          refine z_s I (s_goto (tgt := 30) D_Md_chain_2.2.2.1.1 rfl) ?_
          refine z_s I (s_lv (lv' := [(0, vR ad o), (3, vI x3), (2, vI v4), (4, vI (w32 (x4 + 1)))]) [2, 3, 1, 0] rfl) ?_
          exact z_end (fun g => hin2_2 _ g ⟨f6, (inR_w32 _)⟩)
        · refine z_s I (s_aload_n (pc' := 51) 0 rfl D_Md_chain_2.1.1.2.1 rfl rfl) ?_
          refine z_getR (pc' := 54) (eI := o + 23) I g_Md_84 ao rfl (by omega) D_Md_chain_2.1.1.2.2 rfl ?_
          have k7 : ok τ (0, 8) (o + 23) := r_Md_links hw ao (by omega)
          refine z_s I (s_iload (pc' := 56) 3 rfl D_Md_chain_2.1.2.1.1 rfl) ?_
          refine z_iald (pc' := 57) (nI := 8) I k7 ax4 rfl D_Md_chain_2.1.2.1.2 rfl (fun c8 f9 => ?_)
          refine z_s I (s_goto (tgt := 61) D_Md_chain_2.1.2.2.1 rfl) ?_
          refine z_s I (s_ior (pc' := 62) D_Md_chain_2.2.1.1 rfl) ?_
          refine z_bI (r_iOr _ _) (fun v10 e11 f12 => ?_)
          refine z_s I (s_istore_n (pc' := 63) (lv' := [(2, vI v10), (0, vR ad o), (3, vI x3), (4, vI x4)]) D_Md_chain_2.2.1.2.1 rfl (by decide) rfl rfl) ?_
          refine z_s I (s_iinc (pc' := 66) (lv' := [(4, vI (w32 (x4 + 1))), (2, vI v10), (0, vR ad o), (3, vI x3)]) (n := 3) rfl D_Md_chain_2.2.1.2.2 (by decide) rfl rfl) ?_
          refine z_s I (s_goto (tgt := 30) D_Md_chain_2.2.2.1.1 rfl) ?_
          refine z_s I (s_lv (lv' := [(0, vR ad o), (3, vI x3), (2, vI v10), (4, vI (w32 (x4 + 1)))]) [2, 3, 1, 0] rfl) ?_
          exact z_end (fun g => hin2_2 _ g ⟨f12, (inR_w32 _)⟩)
    show Z Y (m_Md_chain_L20b o h x2 x3) G1 h 20 [(0, vR ad o), (2, vI x2), (3, vI x3)] []
    unfold m_Md_chain_L20b
    refine z_s I (s_iload_n (pc' := 21) 1 rfl D_Md_chain_0.2.2.2.1 rfl rfl) ?_
    refine z_s I (s_iload_n (pc' := 22) 2 rfl D_Md_chain_0.2.2.2.2 rfl rfl) ?_
    refine z_icmp_eq (tgt := 72) (pc' := 25) I ax2 ax3 D_Md_chain_1.1.1.1.1 rfl rfl (fun c13 => ?_) (fun c13 => ?_)
    · refine z_s I (s_iload_n (pc' := 73) 1 rfl D_Md_chain_2.2.2.2.1 rfl rfl) ?_
      exact z_ret (w := some (vI x2)) I (fun g => gk1 _ _ g ax2) ⟨_, rfl⟩ D_Md_chain_2.2.2.2.2 rfl
    · refine z_s I (s_iload_n (pc' := 26) 1 rfl D_Md_chain_1.1.1.1.2 rfl rfl) ?_
      refine z_s I (s_istore_n (pc' := 27) (lv' := [(3, vI x2), (0, vR ad o), (2, vI x2)]) D_Md_chain_1.1.1.2.1 rfl (by decide) rfl rfl) ?_
      refine z_s I (s_iconst (pc' := 28) D_Md_chain_1.1.1.2.2 rfl) ?_
      refine z_s I (s_istore (pc' := 30) (lv' := [(4, vI 0), (3, vI x2), (0, vR ad o), (2, vI x2)]) D_Md_chain_1.1.2.1.1 (by decide) rfl rfl) ?_
      refine z_s I (s_lv (lv' := [(0, vR ad o), (3, vI x2), (2, vI x2), (4, vI 0)]) [2, 1, 3, 0] rfl) ?_
      exact L30 _ ax2 _ ⟨ax2, (b01.R bz0)⟩
  have main : Z Y (m_Md_chain o x1 h) G0 h 0 [(0, vR ad o), (1, vI x1)] [] := by
    unfold m_Md_chain
    refine z_s I (s_aload_n (pc' := 1) 0 rfl D_Md_chain_0.1.1.1.1 rfl rfl) ?_
    refine z_s I (s_iload_n (pc' := 2) 1 rfl D_Md_chain_0.1.1.1.2 rfl rfl) ?_
    refine z_b1 (fun r16 q15 => ?_)
    refine z_callV (pc' := 5) I mv_Md_isOne ml_Md_126 (fun ad => [vI x1]) ⟨Nat.le_of_ble_eq_true rfl, Nat.le_of_ble_eq_true rfl⟩ ao (fun hh => c_Md_isOne hw ao ax1 hh q15) rfl rfl (Nat.le_of_ble_eq_true rfl) D_Md_chain_0.1.1.2.1 rfl (fun f14 => ?_)
    refine z_if_ne (tgt := 10) (pc' := 8) I (b01.R f14) D_Md_chain_0.1.1.2.2 rfl rfl (fun c17 => ?_) (fun c17 => ?_)
    · refine z_s I (s_aload_n (pc' := 11) 0 rfl D_Md_chain_0.1.2.2.1 rfl rfl) ?_
      refine z_b1 (fun h20 q19 => ?_)
      refine z_callV (pc' := 14) I mv_Md_binds ml_Md_306 (fun ad => []) ⟨Nat.le_of_ble_eq_true rfl, Nat.le_of_ble_eq_true rfl⟩ ao (fun hh => c_Md_binds hw ao hh q19) rfl rfl (Nat.le_of_ble_eq_true rfl) D_Md_chain_0.1.2.2.2 rfl (fun f18 => ?_)
      refine z_s I (s_iconst (pc' := 15) D_Md_chain_0.2.1.1.1 rfl) ?_
      refine z_s I (s_iload_n (pc' := 16) 1 rfl D_Md_chain_0.2.1.1.2 rfl rfl) ?_
      refine z_s I (s_ishl (pc' := 17) D_Md_chain_0.2.1.2.1 rfl) ?_
      refine z_bI (r_iShl _ _) (fun v21 e22 f23 => ?_)
      refine z_s I (s_istore_n (pc' := 18) (lv' := [(2, vI v21), (0, vR ad o), (1, vI x1)]) D_Md_chain_0.2.1.2.2 rfl (by decide) rfl rfl) ?_
      refine z_s I (s_iconst (pc' := 19) D_Md_chain_0.2.2.1.1 rfl) ?_
      refine z_s I (s_istore_n (pc' := 20) (lv' := [(3, vI 0), (2, vI v21), (0, vR ad o), (1, vI x1)]) D_Md_chain_0.2.2.1.2 rfl (by decide) rfl rfl) ?_
      refine z_s I (s_lv (lv' := [(0, vR ad o), (2, vI v21), (3, vI 0)]) [2, 1, 0] rfl) ?_
      exact L20 _ _ ⟨f23, (b01.R bz0)⟩
    · refine z_s I (s_iconst (pc' := 9) D_Md_chain_0.1.2.1.1 rfl) ?_
      exact z_ret (w := some (vI (-1))) I (fun g => gk0 _ _ g (inR_c (x := (-1)) rfl)) ⟨_, rfl⟩ D_Md_chain_0.1.2.1.2 rfl
  exact main _ hF (by rw [hG0])
set_option maxHeartbeats 4000000 in
set_option maxRecDepth 20000 in
theorem c_Md_group {l : Launch} {τ : TP} {o : Int} {x1 : Int} {h : HP} {r : Int} {h' : HP} (hw : wf τ) (ao : ok τ (4, 10) o) (ax1 : inR x1) (hh : hr τ h) (hF : m_Md_group o x1 h = some (r, h')) : Ctr l y_Md_group k_Md_group 2 (Option.some FieldType.int) 10 262 τ (fun ad => [vR ad o, vI x1]) h (some (vI r)) h' (inR r) := by
  refine ctr_of (by decide) hw hh (fun ad => Nat.le_of_ble_eq_true rfl) (fun ad K Y I hK => ?_)
  obtain ⟨G0, hG0⟩ : ∃ G : Int × HP → Prop, G = fun x => x = (r, h') := ⟨_, rfl⟩
  have gk0 : ∀ (x : Int) (y : HP), G0 (x, y) → inR x → K (some (vI x)) y := fun x y g q => by
    rw [hG0] at g
    cases g
    exact hK q
  have main : Z Y (m_Md_group o x1 h) G0 h 0 [(0, vR ad o), (1, vI x1)] [] := by
    unfold m_Md_group
    refine z_s I (s_iload_n (pc' := 1) 1 rfl D_Md_group_0.1.1.1 rfl rfl) ?_
    refine z_if_ge (tgt := 9) (pc' := 4) I ax1 D_Md_group_0.1.1.2 rfl rfl (fun c1 => ?_) (fun c1 => ?_)
    · refine z_s I (s_aload_n (pc' := 10) 0 rfl D_Md_group_0.2.1.1 rfl rfl) ?_
      refine z_s I (s_iload_n (pc' := 11) 1 rfl D_Md_group_0.2.1.2 rfl rfl) ?_
      refine z_b2 (fun r4 h5 q3 => ?_)
      refine z_callV (pc' := 14) I mv_Md_grouped ml_Md_326 (fun ad => [vI x1]) ⟨Nat.le_of_ble_eq_true rfl, Nat.le_of_ble_eq_true rfl⟩ ao (fun hh => c_Md_grouped hw ao ax1 hh q3) rfl rfl (Nat.le_of_ble_eq_true rfl) D_Md_group_0.2.2.1 rfl (fun f2 => ?_)
      exact z_ret (w := some (vI r4)) I (fun g => gk0 _ _ g f2) ⟨_, rfl⟩ D_Md_group_0.2.2.2 rfl
    · refine z_s I (s_bipush (pc' := 6) D_Md_group_0.1.2.1 rfl rfl) ?_
      refine z_s I (s_goto (tgt := 14) D_Md_group_0.1.2.2 rfl) ?_
      exact z_ret (w := some (vI (-2))) I (fun g => gk0 _ _ g (inR_c (x := (-2)) rfl)) ⟨_, rfl⟩ D_Md_group_0.2.2.2 rfl
  exact main _ hF (by rw [hG0])
set_option maxHeartbeats 4000000 in
set_option maxRecDepth 20000 in
theorem c_Md_placeOf {l : Launch} {τ : TP} {o : Int} {x1 : Int} {h : HP} {r : Int} (hw : wf τ) (ao : ok τ (4, 10) o) (ax1 : inR x1) (hh : hr τ h) (hF : m_Md_placeOf o x1 h = some r) : Ctr l y_Md_placeOf k_Md_placeOf 3 (Option.some FieldType.int) 0 0 τ (fun ad => [vR ad o, vI x1]) h (some (vI r)) h (inR r) := by
  refine ctr_of (by decide) hw hh (fun ad => Nat.le_of_ble_eq_true rfl) (fun ad K Y I hK => ?_)
  obtain ⟨G0, hG0⟩ : ∃ G : Int → Prop, G = fun x => x = r := ⟨_, rfl⟩
  have gk0 : ∀ (x : Int), G0 x → inR x → K (some (vI x)) h := fun x g q => by
    rw [hG0] at g
    cases g
    exact hK q
  have L2 : ∀ (s : Int), (inR s) → Z Y (m_Md_placeOf_L2 o x1 h s) G0 h 2 [(0, vR ad o), (1, vI x1), (2, vI s)] [] := by
    intro s hs
    refine z_loop (G := G0) (hO := fun s : Int => h) (lO := fun s : Int => [(0, vR ad o), (1, vI x1), (2, vI s)]) (Φ := fun s : Int => inR s) (fun G1 hin1_1 hout1 s hs => ?_) FUEL s hs
    obtain ⟨x2, rfl⟩ : ∃ z, z = s := ⟨_, rfl⟩
    have ax2 := hs
    have gk1 := fun (x : Int) (g : G1 (.inr (x))) (q : inR x) => gk0 x (hout1 _ g) q
    show Z Y (m_Md_placeOf_L2b o x1 h x2) G1 h 2 [(0, vR ad o), (1, vI x1), (2, vI x2)] []
    unfold m_Md_placeOf_L2b
    refine z_s I (s_iload_n (pc' := 3) 2 rfl D_Md_placeOf_0.1.1.2.1 rfl rfl) ?_
    refine z_s I (s_aload_n (pc' := 4) 0 rfl D_Md_placeOf_0.1.1.2.2 rfl rfl) ?_
    refine z_getI (pc' := 7) (jI := 38) I g_Md_341 ao rfl rfl D_Md_placeOf_0.1.2.1.1 rfl (fun f1 => ?_)
    refine z_icmp_ge (tgt := 28) (pc' := 10) I ax2 f1 D_Md_placeOf_0.1.2.1.2 rfl rfl (fun c2 => ?_) (fun c2 => ?_)
    · refine z_s I (s_iconst (pc' := 29) D_Md_placeOf_1.1 rfl) ?_
      exact z_ret (w := some (vI (-1))) I (fun g => gk1 _ g (inR_c (x := (-1)) rfl)) ⟨_, rfl⟩ D_Md_placeOf_1.2 rfl
    · refine z_s I (s_aload_n (pc' := 11) 0 rfl D_Md_placeOf_0.1.2.2.1 rfl rfl) ?_
      refine z_getR (pc' := 14) (eI := o + 24) I g_Md_87 ao rfl (by omega) D_Md_placeOf_0.1.2.2.2 rfl ?_
      have k3 : ok τ (0, 6) (o + 24) := r_Md_sits hw ao (by omega)
      refine z_s I (s_iload_n (pc' := 15) 2 rfl D_Md_placeOf_0.2.1.1.1 rfl rfl) ?_
      refine z_iald (pc' := 16) (nI := 6) I k3 ax2 rfl D_Md_placeOf_0.2.1.1.2 rfl (fun c4 f5 => ?_)
      refine z_s I (s_iload_n (pc' := 17) 1 rfl D_Md_placeOf_0.2.1.2.1 rfl rfl) ?_
      refine z_icmp_ne (tgt := 22) (pc' := 20) I f5 ax1 D_Md_placeOf_0.2.1.2.2 rfl rfl (fun c6 => ?_) (fun c6 => ?_)
      · refine z_s I (s_iinc (pc' := 25) (lv' := [(2, vI (w32 (x2 + 1))), (0, vR ad o), (1, vI x1)]) (n := 2) rfl D_Md_placeOf_0.2.2.2.1 (by decide) rfl rfl) ?_
        refine z_s I (s_goto (tgt := 2) D_Md_placeOf_0.2.2.2.2 rfl) ?_
        refine z_s I (s_lv (lv' := [(0, vR ad o), (1, vI x1), (2, vI (w32 (x2 + 1)))]) [1, 2, 0] rfl) ?_
        exact z_end (fun g => hin1_1 _ g (inR_w32 _))
      · refine z_s I (s_iload_n (pc' := 21) 2 rfl D_Md_placeOf_0.2.2.1.1 rfl rfl) ?_
        exact z_ret (w := some (vI x2)) I (fun g => gk1 _ g ax2) ⟨_, rfl⟩ D_Md_placeOf_0.2.2.1.2 rfl
  have main : Z Y (m_Md_placeOf o x1 h) G0 h 0 [(0, vR ad o), (1, vI x1)] [] := by
    unfold m_Md_placeOf
    refine z_s I (s_iconst (pc' := 1) D_Md_placeOf_0.1.1.1.1 rfl) ?_
    refine z_s I (s_istore_n (pc' := 2) (lv' := [(2, vI 0), (0, vR ad o), (1, vI x1)]) D_Md_placeOf_0.1.1.1.2 rfl (by decide) rfl rfl) ?_
    refine z_s I (s_lv (lv' := [(0, vR ad o), (1, vI x1), (2, vI 0)]) [1, 2, 0] rfl) ?_
    exact L2 _ (b01.R bz0)
  exact main _ hF (by rw [hG0])
set_option maxHeartbeats 4000000 in
set_option maxRecDepth 20000 in
theorem c_Md_nearNow {l : Launch} {τ : TP} {o : Int} {x1 : Int} {h : HP} {r : Int} (hw : wf τ) (ao : ok τ (4, 10) o) (ax1 : inR x1) (hh : hr τ h) (hF : m_Md_nearNow o x1 h = some r) : Ctr l y_Md_nearNow k_Md_nearNow 6 (Option.some FieldType.int) 2 44 τ (fun ad => [vR ad o, vI x1]) h (some (vI r)) h (inR r) := by
  refine ctr_of (by decide) hw hh (fun ad => Nat.le_of_ble_eq_true rfl) (fun ad K Y I hK => ?_)
  obtain ⟨G0, hG0⟩ : ∃ G : Int → Prop, G = fun x => x = r := ⟨_, rfl⟩
  have gk0 : ∀ (x : Int), G0 x → inR x → K (some (vI x)) h := fun x g q => by
    rw [hG0] at g
    cases g
    exact hK q
  have L4 : ∀ (s : Int × Int), (inR (s.1) ∧ inR (s.2)) → Z Y (m_Md_nearNow_L4 o x1 h s) G0 h 4 [(0, vR ad o), (1, vI x1), (2, vI (s.1)), (3, vI (s.2))] [] := by
    intro s hs
    refine z_loop (G := G0) (hO := fun s : Int × Int => h) (lO := fun s : Int × Int => [(0, vR ad o), (1, vI x1), (2, vI (s.1)), (3, vI (s.2))]) (Φ := fun s : Int × Int => inR (s.1) ∧ inR (s.2)) (fun G1 hin1_1 hout1 s hs => ?_) FUEL s hs
    obtain ⟨x2, x3⟩ := s
    obtain ⟨ax2, ax3⟩ := hs
    have gk1 := fun (x : Int) (g : G1 (.inr (x))) (q : inR x) => gk0 x (hout1 _ g) q
    show Z Y (m_Md_nearNow_L4b o x1 h x2 x3) G1 h 4 [(0, vR ad o), (1, vI x1), (2, vI x2), (3, vI x3)] []
    unfold m_Md_nearNow_L4b
    refine z_s I (s_iload_n (pc' := 5) 3 rfl D_Md_nearNow_0.1.2.1.1 rfl rfl) ?_
    refine z_s I (s_aload_n (pc' := 6) 0 rfl D_Md_nearNow_0.1.2.1.2 rfl rfl) ?_
    refine z_getI (pc' := 9) (jI := 29) I g_Md_280 ao rfl rfl D_Md_nearNow_0.1.2.2.1 rfl (fun f1 => ?_)
    refine z_icmp_ge (tgt := 101) (pc' := 12) I ax3 f1 D_Md_nearNow_0.1.2.2.2 rfl rfl (fun c2 => ?_) (fun c2 => ?_)
    · refine z_s I (s_iload_n (pc' := 102) 2 rfl D_Md_nearNow_3.2.2.2.1 rfl rfl) ?_
      exact z_ret (w := some (vI x2)) I (fun g => gk1 _ g ax2) ⟨_, rfl⟩ D_Md_nearNow_3.2.2.2.2 rfl
    · refine z_s I (s_aload_n (pc' := 13) 0 rfl D_Md_nearNow_0.2.1.1.1 rfl rfl) ?_
      refine z_s I (s_aload_n (pc' := 14) 0 rfl D_Md_nearNow_0.2.1.1.2 rfl rfl) ?_
      refine z_getR (pc' := 17) (eI := o + 18) I g_Md_68 ao rfl (by omega) D_Md_nearNow_0.2.1.2.1 rfl ?_
      have k3 : ok τ (0, 28) (o + 18) := r_Md_pairX hw ao (by omega)
      refine z_s I (s_iload_n (pc' := 18) 3 rfl D_Md_nearNow_0.2.1.2.2 rfl rfl) ?_
      refine z_iald (pc' := 19) (nI := 28) I k3 ax3 rfl D_Md_nearNow_0.2.2.1.1 rfl (fun c4 f5 => ?_)
      refine z_b1 (fun r8 q7 => ?_)
      refine z_callV (pc' := 22) I mv_Md_placeOf ml_Md_338 (fun ad => [vI (h (o + 18) x3)]) ⟨Nat.le_of_ble_eq_true rfl, Nat.le_of_ble_eq_true rfl⟩ ao (fun hh => c_Md_placeOf hw ao f5 hh q7) rfl rfl (Nat.le_of_ble_eq_true rfl) D_Md_nearNow_0.2.2.1.2 rfl (fun f6 => ?_)
      refine z_s I (s_istore (pc' := 24) (lv' := [(4, vI r8), (0, vR ad o), (1, vI x1), (2, vI x2), (3, vI x3)]) D_Md_nearNow_0.2.2.2.1 (by decide) rfl rfl) ?_
      refine z_s I (s_aload_n (pc' := 25) 1 rfl D_Md_nearNow_0.2.2.2.2 rfl rfl) ?_
      refine z_s I (s_aload_n (pc' := 26) 1 rfl D_Md_nearNow_1.1.1.1.1 rfl rfl) ?_
      refine z_getR (pc' := 29) (eI := o + 19) I g_Md_71 ao rfl (by omega) D_Md_nearNow_1.1.1.1.2 rfl ?_
      have k9 : ok τ (0, 28) (o + 19) := r_Md_pairY hw ao (by omega)
      refine z_s I (s_iload_n (pc' := 30) 4 rfl D_Md_nearNow_1.1.1.2.1 rfl rfl) ?_
      refine z_iald (pc' := 31) (nI := 28) I k9 ax3 rfl D_Md_nearNow_1.1.1.2.2 rfl (fun c10 f11 => ?_)
      refine z_b1 (fun r14 q13 => ?_)
      refine z_callV (pc' := 34) I mv_Md_placeOf ml_Md_338 (fun ad => [vI (h (o + 19) x3)]) ⟨Nat.le_of_ble_eq_true rfl, Nat.le_of_ble_eq_true rfl⟩ ao (fun hh => c_Md_placeOf hw ao f11 hh q13) rfl rfl (Nat.le_of_ble_eq_true rfl) D_Md_nearNow_1.1.2.1.1 rfl (fun f12 => ?_)
      refine z_s I (s_istore (pc' := 36) (lv' := [(5, vI r14), (4, vI r8), (0, vR ad o), (1, vI x1), (2, vI x2), (3, vI x3)]) D_Md_nearNow_1.1.2.1.2 (by decide) rfl rfl) ?_
      refine z_s I (s_iload_n (pc' := 37) 4 rfl D_Md_nearNow_1.1.2.2.1 rfl rfl) ?_
      refine z_s I (s_aload_n (pc' := 38) 2 rfl D_Md_nearNow_1.1.2.2.2 rfl rfl) ?_
      refine z_getR (pc' := 41) (eI := o + 22) I g_Md_80 ao rfl (by omega) D_Md_nearNow_1.2.1.1.1 rfl ?_
      have k15 : ok τ (2, 28) (o + 22) := r_Md_isSuspect hw ao (by omega)
      refine z_s I (s_iload_n (pc' := 42) 5 rfl D_Md_nearNow_1.2.1.1.2 rfl rfl) ?_
      refine z_bald (pc' := 43) (nI := 28) I k15 ax3 rfl D_Md_nearNow_1.2.1.2.1 rfl (fun c16 f17 => ?_)
      refine z_if_eq (tgt := 92) (pc' := 46) I (b01.R f17) D_Md_nearNow_1.2.1.2.2 rfl rfl (fun c18 => ?_) (fun c18 => ?_)
      · refine z_s I (s_iconst (pc' := 93) D_Md_nearNow_3.1.2.2.2 rfl) ?_
        refine z_s I (s_iadd (pc' := 94) D_Md_nearNow_3.2.1.1 rfl) ?_
        refine z_bI (inR_w32 _) (fun v19 e20 f21 => ?_)
        refine z_s I (s_istore_n (pc' := 95) (lv' := [(2, vI v19), (5, vI r14), (4, vI r8), (0, vR ad o), (1, vI x1), (3, vI x3)]) D_Md_nearNow_3.2.1.2.1 rfl (by decide) rfl rfl) ?_
        refine z_s I (s_iinc (pc' := 98) (lv' := [(3, vI (w32 (x3 + 1))), (2, vI v19), (5, vI r14), (4, vI r8), (0, vR ad o), (1, vI x1)]) (n := 5) rfl D_Md_nearNow_3.2.1.2.2 (by decide) rfl rfl) ?_
        refine z_s I (s_goto (tgt := 4) D_Md_nearNow_3.2.2.1 rfl) ?_
        refine z_s I (s_lv (lv' := [(0, vR ad o), (1, vI x1), (2, vI v19), (3, vI (w32 (x3 + 1)))]) [4, 5, 1, 0] rfl) ?_
        exact z_end (fun g => hin1_1 _ g ⟨f21, (inR_w32 _)⟩)
      · refine z_s I (s_iload (pc' := 48) 1 rfl D_Md_nearNow_1.2.2.1.1 rfl) ?_
        refine z_if_lt (tgt := 92) (pc' := 51) I f6 D_Md_nearNow_1.2.2.1.2 rfl rfl (fun c22 => ?_) (fun c22 => ?_)
        · refine z_s I (s_iconst (pc' := 93) D_Md_nearNow_3.1.2.2.2 rfl) ?_
          refine z_s I (s_iadd (pc' := 94) D_Md_nearNow_3.2.1.1 rfl) ?_
          refine z_bI (inR_w32 _) (fun v23 e24 f25 => ?_)
          refine z_s I (s_istore_n (pc' := 95) (lv' := [(2, vI v23), (5, vI r14), (4, vI r8), (0, vR ad o), (1, vI x1), (3, vI x3)]) D_Md_nearNow_3.2.1.2.1 rfl (by decide) rfl rfl) ?_
          refine z_s I (s_iinc (pc' := 98) (lv' := [(3, vI (w32 (x3 + 1))), (2, vI v23), (5, vI r14), (4, vI r8), (0, vR ad o), (1, vI x1)]) (n := 5) rfl D_Md_nearNow_3.2.1.2.2 (by decide) rfl rfl) ?_
          refine z_s I (s_goto (tgt := 4) D_Md_nearNow_3.2.2.1 rfl) ?_
          refine z_s I (s_lv (lv' := [(0, vR ad o), (1, vI x1), (2, vI v23), (3, vI (w32 (x3 + 1)))]) [4, 5, 1, 0] rfl) ?_
          exact z_end (fun g => hin1_1 _ g ⟨f25, (inR_w32 _)⟩)
        · refine z_s I (s_iload (pc' := 53) 0 rfl D_Md_nearNow_1.2.2.2.1 rfl) ?_
          refine z_if_lt (tgt := 92) (pc' := 56) I f12 D_Md_nearNow_1.2.2.2.2 rfl rfl (fun c26 => ?_) (fun c26 => ?_)
          · refine z_s I (s_iconst (pc' := 93) D_Md_nearNow_3.1.2.2.2 rfl) ?_
            refine z_s I (s_iadd (pc' := 94) D_Md_nearNow_3.2.1.1 rfl) ?_
            refine z_bI (inR_w32 _) (fun v27 e28 f29 => ?_)
            refine z_s I (s_istore_n (pc' := 95) (lv' := [(2, vI v27), (5, vI r14), (4, vI r8), (0, vR ad o), (1, vI x1), (3, vI x3)]) D_Md_nearNow_3.2.1.2.1 rfl (by decide) rfl rfl) ?_
            refine z_s I (s_iinc (pc' := 98) (lv' := [(3, vI (w32 (x3 + 1))), (2, vI v27), (5, vI r14), (4, vI r8), (0, vR ad o), (1, vI x1)]) (n := 5) rfl D_Md_nearNow_3.2.1.2.2 (by decide) rfl rfl) ?_
            refine z_s I (s_goto (tgt := 4) D_Md_nearNow_3.2.2.1 rfl) ?_
            refine z_s I (s_lv (lv' := [(0, vR ad o), (1, vI x1), (2, vI v27), (3, vI (w32 (x3 + 1)))]) [4, 5, 1, 0] rfl) ?_
            exact z_end (fun g => hin1_1 _ g ⟨f29, (inR_w32 _)⟩)
          · refine z_s I (s_aload_n (pc' := 57) 2 rfl D_Md_nearNow_2.1.1.1.1 rfl rfl) ?_
            refine z_s I (s_aload_n (pc' := 58) 2 rfl D_Md_nearNow_2.1.1.1.2 rfl rfl) ?_
            refine z_getR (pc' := 61) (eI := o + 24) I g_Md_87 ao rfl (by omega) D_Md_nearNow_2.1.1.2.1 rfl ?_
            have k30 : ok τ (0, 6) (o + 24) := r_Md_sits hw ao (by omega)
            refine z_s I (s_aload_n (pc' := 62) 2 rfl D_Md_nearNow_2.1.1.2.2 rfl rfl) ?_
            refine z_getR (pc' := 65) (eI := o + 25) I g_Md_90 ao rfl (by omega) D_Md_nearNow_2.1.2.1.1 rfl ?_
            have k31 : ok τ (0, 6) (o + 25) := r_Md_seatOf hw ao (by omega)
            refine z_s I (s_iload (pc' := 67) 1 rfl D_Md_nearNow_2.1.2.1.2 rfl) ?_
            refine z_iald (pc' := 68) (nI := 6) I k31 f6 rfl D_Md_nearNow_2.1.2.2.1 rfl (fun c32 f33 => ?_)
            refine z_iald (pc' := 69) (nI := 6) I k30 f33 rfl D_Md_nearNow_2.1.2.2.2 rfl (fun c34 f35 => ?_)
            refine z_s I (s_aload_n (pc' := 70) 2 rfl D_Md_nearNow_2.2.1.1.1 rfl rfl) ?_
            refine z_getR (pc' := 73) (eI := o + 24) I g_Md_87 ao rfl (by omega) D_Md_nearNow_2.2.1.1.2 rfl ?_
            have k36 : ok τ (0, 6) (o + 24) := r_Md_sits hw ao (by omega)
            refine z_s I (s_aload_n (pc' := 74) 2 rfl D_Md_nearNow_2.2.1.2.1 rfl rfl) ?_
            refine z_getR (pc' := 77) (eI := o + 25) I g_Md_90 ao rfl (by omega) D_Md_nearNow_2.2.1.2.2 rfl ?_
            have k37 : ok τ (0, 6) (o + 25) := r_Md_seatOf hw ao (by omega)
            refine z_s I (s_iload (pc' := 79) 0 rfl D_Md_nearNow_2.2.2.1.1 rfl) ?_
            refine z_iald (pc' := 80) (nI := 6) I k37 f12 rfl D_Md_nearNow_2.2.2.1.2 rfl (fun c38 f39 => ?_)
            refine z_iald (pc' := 81) (nI := 6) I k36 f39 rfl D_Md_nearNow_2.2.2.2.1 rfl (fun c40 f41 => ?_)
            refine z_s I (s_iload_n (pc' := 82) 3 rfl D_Md_nearNow_2.2.2.2.2 rfl rfl) ?_
            refine z_b1 (fun r44 q43 => ?_)
            refine z_callV (pc' := 85) I mv_Md_isNear ml_Md_289 (fun ad => [vI (h (o + 24) (h (o + 25) r8)), vI (h (o + 24) (h (o + 25) r14)), vI x1]) ⟨Nat.le_of_ble_eq_true rfl, Nat.le_of_ble_eq_true rfl⟩ ao (fun hh => c_Md_isNear hw ao f35 f41 ax1 hh q43) rfl rfl (Nat.le_of_ble_eq_true rfl) D_Md_nearNow_3.1.1.1 rfl (fun f42 => ?_)
            refine z_if_eq (tgt := 92) (pc' := 88) I (b01.R f42) D_Md_nearNow_3.1.1.2 rfl rfl (fun c45 => ?_) (fun c45 => ?_)
            · refine z_s I (s_iconst (pc' := 93) D_Md_nearNow_3.1.2.2.2 rfl) ?_
              refine z_s I (s_iadd (pc' := 94) D_Md_nearNow_3.2.1.1 rfl) ?_
              refine z_bI (inR_w32 _) (fun v46 e47 f48 => ?_)
              refine z_s I (s_istore_n (pc' := 95) (lv' := [(2, vI v46), (5, vI r14), (4, vI r8), (0, vR ad o), (1, vI x1), (3, vI x3)]) D_Md_nearNow_3.2.1.2.1 rfl (by decide) rfl rfl) ?_
              refine z_s I (s_iinc (pc' := 98) (lv' := [(3, vI (w32 (x3 + 1))), (2, vI v46), (5, vI r14), (4, vI r8), (0, vR ad o), (1, vI x1)]) (n := 5) rfl D_Md_nearNow_3.2.1.2.2 (by decide) rfl rfl) ?_
              refine z_s I (s_goto (tgt := 4) D_Md_nearNow_3.2.2.1 rfl) ?_
              refine z_s I (s_lv (lv' := [(0, vR ad o), (1, vI x1), (2, vI v46), (3, vI (w32 (x3 + 1)))]) [4, 5, 1, 0] rfl) ?_
              exact z_end (fun g => hin1_1 _ g ⟨f48, (inR_w32 _)⟩)
            · refine z_s I (s_iconst (pc' := 89) D_Md_nearNow_3.1.2.1 rfl) ?_
              refine z_s I (s_goto (tgt := 93) D_Md_nearNow_3.1.2.2.1 rfl) ?_
              refine z_s I (s_iadd (pc' := 94) D_Md_nearNow_3.2.1.1 rfl) ?_
              refine z_bI (inR_w32 _) (fun v49 e50 f51 => ?_)
              refine z_s I (s_istore_n (pc' := 95) (lv' := [(2, vI v49), (5, vI r14), (4, vI r8), (0, vR ad o), (1, vI x1), (3, vI x3)]) D_Md_nearNow_3.2.1.2.1 rfl (by decide) rfl rfl) ?_
              refine z_s I (s_iinc (pc' := 98) (lv' := [(3, vI (w32 (x3 + 1))), (2, vI v49), (5, vI r14), (4, vI r8), (0, vR ad o), (1, vI x1)]) (n := 5) rfl D_Md_nearNow_3.2.1.2.2 (by decide) rfl rfl) ?_
              refine z_s I (s_goto (tgt := 4) D_Md_nearNow_3.2.2.1 rfl) ?_
              refine z_s I (s_lv (lv' := [(0, vR ad o), (1, vI x1), (2, vI v49), (3, vI (w32 (x3 + 1)))]) [4, 5, 1, 0] rfl) ?_
              exact z_end (fun g => hin1_1 _ g ⟨f51, (inR_w32 _)⟩)
  have main : Z Y (m_Md_nearNow o x1 h) G0 h 0 [(0, vR ad o), (1, vI x1)] [] := by
    unfold m_Md_nearNow
    refine z_s I (s_iconst (pc' := 1) D_Md_nearNow_0.1.1.1.1 rfl) ?_
    refine z_s I (s_istore_n (pc' := 2) (lv' := [(2, vI 0), (0, vR ad o), (1, vI x1)]) D_Md_nearNow_0.1.1.1.2 rfl (by decide) rfl rfl) ?_
    refine z_s I (s_iconst (pc' := 3) D_Md_nearNow_0.1.1.2.1 rfl) ?_
    refine z_s I (s_istore_n (pc' := 4) (lv' := [(3, vI 0), (2, vI 0), (0, vR ad o), (1, vI x1)]) D_Md_nearNow_0.1.1.2.2 rfl (by decide) rfl rfl) ?_
    refine z_s I (s_lv (lv' := [(0, vR ad o), (1, vI x1), (2, vI 0), (3, vI 0)]) [2, 3, 1, 0] rfl) ?_
    exact L4 _ ⟨(b01.R bz0), (b01.R bz0)⟩
  exact main _ hF (by rw [hG0])
set_option maxHeartbeats 4000000 in
set_option maxRecDepth 20000 in
theorem c_Md_exchange {l : Launch} {τ : TP} {o : Int} {x1 : Int} {x2 : Int} {h : HP} {h' : HP} (hw : wf τ) (ao : ok τ (4, 10) o) (ax1 : inR x1) (ax2 : inR x2) (hh : hr τ h) (hF : m_Md_exchange o x1 x2 h = some h') : Ctr l y_Md_exchange k_Md_exchange 4 (Option.none : Option FieldType) 0 0 τ (fun ad => [vR ad o, vI x1, vI x2]) h none h' (True) := by
  refine ctr_of (by decide) hw hh (fun ad => Nat.le_of_ble_eq_true rfl) (fun ad K Y I hK => ?_)
  obtain ⟨G0, hG0⟩ : ∃ G : HP → Prop, G = fun x => x = h' := ⟨_, rfl⟩
  have gk0 : ∀ (x : HP), G0 x → K none x := fun x g => by
    rw [hG0] at g
    cases g
    exact hK trivial
  have main : Z Y (m_Md_exchange o x1 x2 h) G0 h 0 [(0, vR ad o), (1, vI x1), (2, vI x2)] [] := by
    unfold m_Md_exchange
    refine z_s I (s_aload_n (pc' := 1) 0 rfl D_Md_exchange_0.1.1.1.1 rfl rfl) ?_
    refine z_getR (pc' := 4) (eI := o + 25) I g_Md_90 ao rfl (by omega) D_Md_exchange_0.1.1.1.2 rfl ?_
    have k1 : ok τ (0, 6) (o + 25) := r_Md_seatOf hw ao (by omega)
    refine z_s I (s_iload_n (pc' := 5) 1 rfl D_Md_exchange_0.1.1.2.1 rfl rfl) ?_
    refine z_iald (pc' := 6) (nI := 6) I k1 ax1 rfl D_Md_exchange_0.1.1.2.2 rfl (fun c2 f3 => ?_)
    refine z_bI f3 (fun v4 e5 f6 => ?_)
    refine z_s I (s_istore_n (pc' := 7) (lv' := [(3, vI v4), (0, vR ad o), (1, vI x1), (2, vI x2)]) D_Md_exchange_0.1.2.1.1 rfl (by decide) rfl rfl) ?_
    refine z_s I (s_aload_n (pc' := 8) 1 rfl D_Md_exchange_0.1.2.1.2 rfl rfl) ?_
    refine z_getR (pc' := 11) (eI := o + 25) I g_Md_90 ao rfl (by omega) D_Md_exchange_0.1.2.2.1 rfl ?_
    have k7 : ok τ (0, 6) (o + 25) := r_Md_seatOf hw ao (by omega)
    refine z_s I (s_iload_n (pc' := 12) 2 rfl D_Md_exchange_0.1.2.2.2 rfl rfl) ?_
    refine z_s I (s_aload_n (pc' := 13) 1 rfl D_Md_exchange_0.2.1.1.1 rfl rfl) ?_
    refine z_getR (pc' := 16) (eI := o + 25) I g_Md_90 ao rfl (by omega) D_Md_exchange_0.2.1.1.2 rfl ?_
    have k8 : ok τ (0, 6) (o + 25) := r_Md_seatOf hw ao (by omega)
    refine z_s I (s_iload_n (pc' := 17) 3 rfl D_Md_exchange_0.2.1.2.1 rfl rfl) ?_
    refine z_iald (pc' := 18) (nI := 6) I k8 ax2 rfl D_Md_exchange_0.2.1.2.2 rfl (fun c9 f10 => ?_)
    refine z_iast (pc' := 19) (nI := 6) I k7 ax1 f10 rfl D_Md_exchange_0.2.2.1.1 rfl (fun c11 => ?_)
    refine z_bH (fun h12 e13 => ?_)
    refine z_s I (s_aload_n (pc' := 20) 1 rfl D_Md_exchange_0.2.2.1.2 rfl rfl) ?_
    refine z_getR (pc' := 23) (eI := o + 25) I g_Md_90 ao rfl (by omega) D_Md_exchange_0.2.2.2.1 rfl ?_
    have k14 : ok τ (0, 6) (o + 25) := r_Md_seatOf hw ao (by omega)
    refine z_s I (s_iload_n (pc' := 24) 3 rfl D_Md_exchange_0.2.2.2.2 rfl rfl) ?_
    refine z_s I (s_iload_n (pc' := 25) 0 rfl D_Md_exchange_1.1 rfl rfl) ?_
    refine z_iast (pc' := 26) (nI := 6) I k14 ax2 f6 rfl D_Md_exchange_1.2.1 rfl (fun c15 => ?_)
    refine z_bH (fun h16 e17 => ?_)
    exact z_ret (w := none) I (fun g => gk0 _ g) rfl D_Md_exchange_1.2.2 rfl
  exact main _ hF (by rw [hG0])
set_option maxHeartbeats 4000000 in
set_option maxRecDepth 20000 in
theorem c_Md_turns {l : Launch} {τ : TP} {o : Int} {h : HP} {r : Int} {h' : HP} (hw : wf τ) (ao : ok τ (4, 10) o) (hh : hr τ h) (hF : m_Md_turns o h = some (r, h')) : Ctr l y_Md_turns k_Md_turns 5 (Option.some FieldType.boolean) 1 23 τ (fun ad => [vR ad o]) h (some (vI r)) h' (b01 r) := by
  refine ctr_of (by decide) hw hh (fun ad => Nat.le_of_ble_eq_true rfl) (fun ad K Y I hK => ?_)
  obtain ⟨G0, hG0⟩ : ∃ G : Int × HP → Prop, G = fun x => x = (r, h') := ⟨_, rfl⟩
  have gk0 : ∀ (x : Int) (y : HP), G0 (x, y) → b01 x → K (some (vI x)) y := fun x y g q => by
    rw [hG0] at g
    cases g
    exact hK q
  have L86 : ∀ (s : Int × Int × HP), (inR (s.1) ∧ inR (s.2.1)) → Z Y (m_Md_turns_L86 o s) G0 (s.2.2) 86 [(0, vR ad o), (3, vI (s.1)), (4, vI (s.2.1))] [] := by
    intro s hs
    refine z_loop (G := G0) (hO := fun s : Int × Int × HP => s.2.2) (lO := fun s : Int × Int × HP => [(0, vR ad o), (3, vI (s.1)), (4, vI (s.2.1))]) (Φ := fun s : Int × Int × HP => inR (s.1) ∧ inR (s.2.1)) (fun G1 hin1_1 hout1 s hs => ?_) FUEL s hs
    obtain ⟨x3, x4, h⟩ := s
    obtain ⟨ax3, ax4⟩ := hs
    have gk1 := fun (x : Int) (y : HP) (g : G1 (.inr ((x, y)))) (q : b01 x) => gk0 x y (hout1 _ g) q
    show Z Y (m_Md_turns_L86b o x3 x4 h) G1 h 86 [(0, vR ad o), (3, vI x3), (4, vI x4)] []
    unfold m_Md_turns_L86b
    refine z_s I (s_iload (pc' := 88) 2 rfl D_Md_turns_3.1.2.1.2 rfl) ?_
    refine z_s I (s_iload_n (pc' := 89) 1 rfl D_Md_turns_3.1.2.2.1 rfl rfl) ?_
    refine z_icmp_ge (tgt := 108) (pc' := 92) I ax4 ax3 D_Md_turns_3.1.2.2.2 rfl rfl (fun c1 => ?_) (fun c1 => ?_)
    · refine z_s I (s_iconst (pc' := 109) D_Md_turns_3.2.2.2.2 rfl) ?_
      exact z_ret (w := some (vI 1)) I (fun g => gk1 _ _ g bz1) ⟨_, bz1, rfl⟩ D_Md_turns_4 rfl
    · refine z_s I (s_aload_n (pc' := 93) 0 rfl D_Md_turns_3.2.1.1.1 rfl rfl) ?_
      refine z_s I (s_iload (pc' := 95) 2 rfl D_Md_turns_3.2.1.1.2 rfl) ?_
      refine z_s I (s_iload_n (pc' := 96) 1 rfl D_Md_turns_3.2.1.2.1 rfl rfl) ?_
      refine z_b1 (fun h4 q3 => ?_)
      refine z_callV (pc' := 99) I mv_Md_exchange ml_Md_344 (fun ad => [vI x4, vI x3]) ⟨Nat.le_of_ble_eq_true rfl, Nat.le_of_ble_eq_true rfl⟩ ao (fun hh => c_Md_exchange hw ao ax4 ax3 hh q3) rfl rfl (Nat.le_of_ble_eq_true rfl) D_Md_turns_3.2.1.2.2 rfl (fun f2 => ?_)
      refine z_s I (s_iinc (pc' := 102) (lv' := [(3, vI (w32 (x3 + (-1)))), (0, vR ad o), (4, vI x4)]) (n := 1) rfl D_Md_turns_3.2.2.1.1 (by decide) rfl rfl) ?_
      refine z_s I (s_iinc (pc' := 105) (lv' := [(4, vI (w32 (x4 + 1))), (3, vI (w32 (x3 + (-1)))), (0, vR ad o)]) (n := 2) rfl D_Md_turns_3.2.2.1.2 (by decide) rfl rfl) ?_
      refine z_s I (s_goto (tgt := 86) D_Md_turns_3.2.2.2.1 rfl) ?_
      refine z_s I (s_lv (lv' := [(0, vR ad o), (3, vI (w32 (x3 + (-1)))), (4, vI (w32 (x4 + 1)))]) [2, 1, 0] rfl) ?_
      exact z_end (fun g => hin1_1 _ g ⟨(inR_w32 _), (inR_w32 _)⟩)
  have J68 : ∀ (x1 : Int) (ax1 : inR x1) (x2 : Int) (ax2 : inR x2) (h : HP), Z Y (m_Md_turns_J68 o x1 x2 h) G0 h 68 [(0, vR ad o), (1, vI x1), (2, vI x2)] [] := by
    intro x1 ax1 x2 ax2 h
    unfold m_Md_turns_J68
    refine z_s I (s_aload_n (pc' := 69) 0 rfl D_Md_turns_2.2.1.1.1 rfl rfl) ?_
    refine z_s I (s_iload_n (pc' := 70) 1 rfl D_Md_turns_2.2.1.1.2 rfl rfl) ?_
    refine z_s I (s_iload_n (pc' := 71) 2 rfl D_Md_turns_2.2.1.2.1 rfl rfl) ?_
    refine z_b1 (fun h7 q6 => ?_)
    refine z_callV (pc' := 74) I mv_Md_exchange ml_Md_344 (fun ad => [vI x1, vI x2]) ⟨Nat.le_of_ble_eq_true rfl, Nat.le_of_ble_eq_true rfl⟩ ao (fun hh => c_Md_exchange hw ao ax1 ax2 hh q6) rfl rfl (Nat.le_of_ble_eq_true rfl) D_Md_turns_2.2.1.2.2 rfl (fun f5 => ?_)
    refine z_s I (s_aload_n (pc' := 75) 0 rfl D_Md_turns_2.2.2.1.1 rfl rfl) ?_
    refine z_getI (pc' := 78) (jI := 38) I g_Md_341 ao rfl rfl D_Md_turns_2.2.2.1.2 rfl (fun f8 => ?_)
    refine z_s I (s_iconst (pc' := 79) D_Md_turns_2.2.2.2.1 rfl) ?_
    refine z_s I (s_isub (pc' := 80) D_Md_turns_2.2.2.2.2 rfl) ?_
    refine z_bI (inR_w32 _) (fun v9 e10 f11 => ?_)
    refine z_s I (s_istore_n (pc' := 81) (lv' := [(3, vI v9), (0, vR ad o), (1, vI x1), (2, vI x2)]) D_Md_turns_3.1.1.1.1 rfl (by decide) rfl rfl) ?_
    refine z_s I (s_iload_n (pc' := 82) 2 rfl D_Md_turns_3.1.1.1.2 rfl rfl) ?_
    refine z_s I (s_iconst (pc' := 83) D_Md_turns_3.1.1.2.1 rfl) ?_
    refine z_s I (s_iadd (pc' := 84) D_Md_turns_3.1.1.2.2 rfl) ?_
    refine z_bI (inR_w32 _) (fun v12 e13 f14 => ?_)
    refine z_s I (s_istore (pc' := 86) (lv' := [(4, vI v12), (3, vI v9), (0, vR ad o), (1, vI x1), (2, vI x2)]) D_Md_turns_3.1.2.1.1 (by decide) rfl rfl) ?_
    refine z_s I (s_lv (lv' := [(0, vR ad o), (3, vI v9), (4, vI v12)]) [2, 1, 0] rfl) ?_
    exact L86 _ ⟨f11, f14⟩
  have L47 : ∀ (x1 : Int) (ax1 : inR x1) (h : HP) (s : Int), (inR s) → Z Y (m_Md_turns_L47 o x1 h s) G0 h 47 [(0, vR ad o), (1, vI x1), (2, vI s)] [] := by
    intro x1 ax1 h s hs
    refine z_loop (G := G0) (hO := fun s : Int => h) (lO := fun s : Int => [(0, vR ad o), (1, vI x1), (2, vI s)]) (Φ := fun s : Int => inR s) (fun G1 hin1_1 hout1 s hs => ?_) FUEL s hs
    obtain ⟨x2, rfl⟩ : ∃ z, z = s := ⟨_, rfl⟩
    have ax2 := hs
    have gk1 := fun (x : Int) (y : HP) (g : G1 (.inr ((x, y)))) (q : b01 x) => gk0 x y (hout1 _ g) q
    show Z Y (m_Md_turns_L47b o x1 h x2) G1 h 47 [(0, vR ad o), (1, vI x1), (2, vI x2)] []
    unfold m_Md_turns_L47b
    refine z_s I (s_aload_n (pc' := 48) 0 rfl D_Md_turns_1.2.2.1.2 rfl rfl) ?_
    refine z_getR (pc' := 51) (eI := o + 25) I g_Md_90 ao rfl (by omega) D_Md_turns_1.2.2.2.1 rfl ?_
    have k15 : ok τ (0, 6) (o + 25) := r_Md_seatOf hw ao (by omega)
    refine z_s I (s_iload_n (pc' := 52) 2 rfl D_Md_turns_1.2.2.2.2 rfl rfl) ?_
    refine z_iald (pc' := 53) (nI := 6) I k15 ax2 rfl D_Md_turns_2.1.1.1.1 rfl (fun c16 f17 => ?_)
    refine z_s I (s_aload_n (pc' := 54) 0 rfl D_Md_turns_2.1.1.1.2 rfl rfl) ?_
    refine z_getR (pc' := 57) (eI := o + 25) I g_Md_90 ao rfl (by omega) D_Md_turns_2.1.1.2.1 rfl ?_
    have k18 : ok τ (0, 6) (o + 25) := r_Md_seatOf hw ao (by omega)
    refine z_s I (s_iload_n (pc' := 58) 1 rfl D_Md_turns_2.1.1.2.2 rfl rfl) ?_
    refine z_iald (pc' := 59) (nI := 6) I k18 ax1 rfl D_Md_turns_2.1.2.1.1 rfl (fun c19 f20 => ?_)
    refine z_icmp_ge (tgt := 68) (pc' := 62) I f17 f20 D_Md_turns_2.1.2.1.2 rfl rfl (fun c21 => ?_) (fun c21 => ?_)
    · refine z_map _ (fun x g => hout1 x g) ?_
      exact J68 _ ax1 _ ax2 _
    · refine z_s I (s_iinc (pc' := 65) (lv' := [(2, vI (w32 (x2 + (-1)))), (0, vR ad o), (1, vI x1)]) (n := 2) rfl D_Md_turns_2.1.2.2.1 (by decide) rfl rfl) ?_
      refine z_s I (s_goto (tgt := 47) D_Md_turns_2.1.2.2.2 rfl) ?_
      refine z_s I (s_lv (lv' := [(0, vR ad o), (1, vI x1), (2, vI (w32 (x2 + (-1))))]) [1, 2, 0] rfl) ?_
      exact z_end (fun g => hin1_1 _ g (inR_w32 _))
  have J34 : ∀ (x1 : Int) (ax1 : inR x1) (h : HP), Z Y (m_Md_turns_J34 o x1 h) G0 h 34 [(0, vR ad o), (1, vI x1)] [] := by
    intro x1 ax1 h
    unfold m_Md_turns_J34
    refine z_s I (s_iload_n (pc' := 35) 1 rfl D_Md_turns_1.1.2.1.1 rfl rfl) ?_
    refine z_if_ge (tgt := 40) (pc' := 38) I ax1 D_Md_turns_1.1.2.1.2 rfl rfl (fun c22 => ?_) (fun c22 => ?_)
    · refine z_s I (s_aload_n (pc' := 41) 0 rfl D_Md_turns_1.2.1.1.1 rfl rfl) ?_
      refine z_getI (pc' := 44) (jI := 38) I g_Md_341 ao rfl rfl D_Md_turns_1.2.1.1.2 rfl (fun f23 => ?_)
      refine z_s I (s_iconst (pc' := 45) D_Md_turns_1.2.1.2.1 rfl) ?_
      refine z_s I (s_isub (pc' := 46) D_Md_turns_1.2.1.2.2 rfl) ?_
      refine z_bI (inR_w32 _) (fun v24 e25 f26 => ?_)
      refine z_s I (s_istore_n (pc' := 47) (lv' := [(2, vI v24), (0, vR ad o), (1, vI x1)]) D_Md_turns_1.2.2.1.1 rfl (by decide) rfl rfl) ?_
      refine z_s I (s_lv (lv' := [(0, vR ad o), (1, vI x1), (2, vI v24)]) [1, 2, 0] rfl) ?_
      exact L47 _ ax1 _ _ f26
    · refine z_s I (s_iconst (pc' := 39) D_Md_turns_1.1.2.2.1 rfl) ?_
      exact z_ret (w := some (vI 0)) I (fun g => gk0 _ _ g bz0) ⟨_, bz0, rfl⟩ D_Md_turns_1.1.2.2.2 rfl
  have L7 : ∀ (h : HP) (s : Int), (inR s) → Z Y (m_Md_turns_L7 o h s) G0 h 7 [(0, vR ad o), (1, vI s)] [] := by
    intro h s hs
    refine z_loop (G := G0) (hO := fun s : Int => h) (lO := fun s : Int => [(0, vR ad o), (1, vI s)]) (Φ := fun s : Int => inR s) (fun G1 hin1_1 hout1 s hs => ?_) FUEL s hs
    obtain ⟨x1, rfl⟩ : ∃ z, z = s := ⟨_, rfl⟩
    have ax1 := hs
    have gk1 := fun (x : Int) (y : HP) (g : G1 (.inr ((x, y)))) (q : b01 x) => gk0 x y (hout1 _ g) q
    show Z Y (m_Md_turns_L7b o h x1) G1 h 7 [(0, vR ad o), (1, vI x1)] []
    unfold m_Md_turns_L7b
    refine z_s I (s_iload_n (pc' := 8) 1 rfl D_Md_turns_0.1.2.1.2 rfl rfl) ?_
    refine z_if_lt (tgt := 34) (pc' := 11) I ax1 D_Md_turns_0.1.2.2.1 rfl rfl (fun c27 => ?_) (fun c27 => ?_)
    · refine z_map _ (fun x g => hout1 x g) ?_
      exact J34 _ ax1 _
    · refine z_s I (s_aload_n (pc' := 12) 0 rfl D_Md_turns_0.1.2.2.2 rfl rfl) ?_
      refine z_getR (pc' := 15) (eI := o + 25) I g_Md_90 ao rfl (by omega) D_Md_turns_0.2.1.1.1 rfl ?_
      have k28 : ok τ (0, 6) (o + 25) := r_Md_seatOf hw ao (by omega)
      refine z_s I (s_iload_n (pc' := 16) 1 rfl D_Md_turns_0.2.1.1.2 rfl rfl) ?_
      refine z_iald (pc' := 17) (nI := 6) I k28 ax1 rfl D_Md_turns_0.2.1.2.1 rfl (fun c29 f30 => ?_)
      refine z_s I (s_aload_n (pc' := 18) 0 rfl D_Md_turns_0.2.1.2.2 rfl rfl) ?_
      refine z_getR (pc' := 21) (eI := o + 25) I g_Md_90 ao rfl (by omega) D_Md_turns_0.2.2.1.1 rfl ?_
      have k31 : ok τ (0, 6) (o + 25) := r_Md_seatOf hw ao (by omega)
      refine z_s I (s_iload_n (pc' := 22) 1 rfl D_Md_turns_0.2.2.1.2 rfl rfl) ?_
      refine z_s I (s_iconst (pc' := 23) D_Md_turns_0.2.2.2.1 rfl) ?_
      refine z_s I (s_iadd (pc' := 24) D_Md_turns_0.2.2.2.2 rfl) ?_
      refine z_iald (pc' := 25) (nI := 6) I k31 (inR_w32 _) rfl D_Md_turns_1.1.1.1.1 rfl (fun c32 f33 => ?_)
      refine z_icmp_le (tgt := 34) (pc' := 28) I f30 f33 D_Md_turns_1.1.1.1.2 rfl rfl (fun c34 => ?_) (fun c34 => ?_)
      · refine z_map _ (fun x g => hout1 x g) ?_
        exact J34 _ ax1 _
      · refine z_s I (s_iinc (pc' := 31) (lv' := [(1, vI (w32 (x1 + (-1)))), (0, vR ad o)]) (n := 1) rfl D_Md_turns_1.1.1.2.1 (by decide) rfl rfl) ?_
        refine z_s I (s_goto (tgt := 7) D_Md_turns_1.1.1.2.2 rfl) ?_
        refine z_s I (s_lv (lv' := [(0, vR ad o), (1, vI (w32 (x1 + (-1))))]) [1, 0] rfl) ?_
        exact z_end (fun g => hin1_1 _ g (inR_w32 _))
  have main : Z Y (m_Md_turns o h) G0 h 0 [(0, vR ad o)] [] := by
    unfold m_Md_turns
    refine z_s I (s_aload_n (pc' := 1) 0 rfl D_Md_turns_0.1.1.1.1 rfl rfl) ?_
    refine z_getI (pc' := 4) (jI := 38) I g_Md_341 ao rfl rfl D_Md_turns_0.1.1.1.2 rfl (fun f35 => ?_)
    refine z_s I (s_iconst (pc' := 5) D_Md_turns_0.1.1.2.1 rfl) ?_
    refine z_s I (s_isub (pc' := 6) D_Md_turns_0.1.1.2.2 rfl) ?_
    refine z_bI (inR_w32 _) (fun v36 e37 f38 => ?_)
    refine z_s I (s_istore_n (pc' := 7) (lv' := [(1, vI v36), (0, vR ad o)]) D_Md_turns_0.1.2.1.1 rfl (by decide) rfl rfl) ?_
    refine z_s I (s_lv (lv' := [(0, vR ad o), (1, vI v36)]) [1, 0] rfl) ?_
    exact L7 _ _ f38
  exact main _ hF (by rw [hG0])
set_option maxHeartbeats 4000000 in
set_option maxRecDepth 20000 in
theorem c_Md_seated {l : Launch} {τ : TP} {o : Int} {x1 : Int} {x2 : Int} {h : HP} {r : Int} {h' : HP} (hw : wf τ) (ao : ok τ (4, 10) o) (ax1 : inR x1) (ax2 : inR x2) (hh : hr τ h) (hF : m_Md_seated o x1 x2 h = some (r, h')) : Ctr l y_Md_seated k_Md_seated 8 (Option.some FieldType.long) 8 218 τ (fun ad => [vR ad o, vI x1, vI x2]) h (some (vL r)) h' (inL r) := by
  refine ctr_of (by decide) hw hh (fun ad => Nat.le_of_ble_eq_true rfl) (fun ad K Y I hK => ?_)
  obtain ⟨G0, hG0⟩ : ∃ G : Int × HP → Prop, G = fun x => x = (r, h') := ⟨_, rfl⟩
  have gk0 : ∀ (x : Int) (y : HP), G0 (x, y) → inL x → K (some (vL x)) y := fun x y g q => by
    rw [hG0] at g
    cases g
    exact hK q
  have J149 : ∀ (l4 : Int) (al4 : inL l4) (l6 : Int) (al6 : inL l6) (h : HP), Z Y (m_Md_seated_J149 x2 l4 l6 h) G0 h 149 [(2, vI x2), (4, vL l4), (6, vL l6)] [] := by
    intro l4 al4 l6 al6 h
    unfold m_Md_seated_J149
    refine z_s I (s_lload (pc' := 151) 2 rfl D_Md_seated_5.1.2.2 rfl) ?_
    refine z_s I (s_lload (pc' := 153) 1 rfl D_Md_seated_5.2.1.1 rfl) ?_
    refine z_s I (s_iload_n (pc' := 154) 0 rfl D_Md_seated_5.2.1.2 rfl rfl) ?_
    refine z_b1 (fun r3 q2 => ?_)
    refine z_callS (pc' := 157) I mv_Md_lowest ml_Md_265 (fun ad => [vL l6, vL l4, vI x2]) ⟨Nat.le_of_ble_eq_true rfl, Nat.le_of_ble_eq_true rfl⟩ (fun hh => c_Md_lowest hw al6 al4 ax2 hh q2) rfl rfl (Nat.le_of_ble_eq_true rfl) D_Md_seated_5.2.2.1 rfl (fun f1 => ?_)
    exact z_ret (w := some (vL r3)) I (fun g => gk0 _ _ g f1) ⟨_, rfl⟩ D_Md_seated_5.2.2.2 rfl
  have L114 : ∀ (x3 : Int) (ax3 : inR x3) (s : Int × Int × HP), (inL (s.1) ∧ inL (s.2.1)) → Z Y (m_Md_seated_L114 o x1 x2 x3 s) G0 (s.2.2) 114 [(0, vR ad o), (1, vI x1), (2, vI x2), (3, vI x3), (4, vL (s.1)), (6, vL (s.2.1))] [] := by
    intro x3 ax3 s hs
    refine z_loop (G := G0) (hO := fun s : Int × Int × HP => s.2.2) (lO := fun s : Int × Int × HP => [(0, vR ad o), (1, vI x1), (2, vI x2), (3, vI x3), (4, vL (s.1)), (6, vL (s.2.1))]) (Φ := fun s : Int × Int × HP => inL (s.1) ∧ inL (s.2.1)) (fun G1 hin1_1 hout1 s hs => ?_) FUEL s hs
    obtain ⟨l4, l6, h⟩ := s
    obtain ⟨al4, al6⟩ := hs
    have gk1 := fun (x : Int) (y : HP) (g : G1 (.inr ((x, y)))) (q : inL x) => gk0 x y (hout1 _ g) q
    show Z Y (m_Md_seated_L114b o x1 x2 x3 l4 l6 h) G1 h 114 [(0, vR ad o), (1, vI x1), (2, vI x2), (3, vI x3), (4, vL l4), (6, vL l6)] []
    unfold m_Md_seated_L114b
    refine z_s I (s_aload_n (pc' := 115) 0 rfl D_Md_seated_3.2.2.2.2 rfl rfl) ?_
    refine z_b2 (fun r6 h7 q5 => ?_)
    refine z_callV (pc' := 118) I mv_Md_turns ml_Md_350 (fun ad => []) ⟨Nat.le_of_ble_eq_true rfl, Nat.le_of_ble_eq_true rfl⟩ ao (fun hh => c_Md_turns hw ao hh q5) rfl rfl (Nat.le_of_ble_eq_true rfl) D_Md_seated_4.1.1.1.1 rfl (fun f4 => ?_)
    refine z_if_eq (tgt := 149) (pc' := 121) I (b01.R f4) D_Md_seated_4.1.1.1.2 rfl rfl (fun c8 => ?_) (fun c8 => ?_)
    · refine z_map _ (fun x g => hout1 x g) ?_
      refine z_s I (s_lv (lv' := [(2, vI x2), (4, vL l4), (6, vL l6)]) [2, 4, 5] rfl) ?_
      exact J149 _ al4 _ al6 _
    · refine z_s I (s_lload (pc' := 123) 4 rfl D_Md_seated_4.1.1.2.1 rfl) ?_
      refine z_s I (s_lconst (pc' := 124) (x := 1) D_Md_seated_4.1.1.2.2 rfl rfl) ?_
      refine z_s I (s_ladd (pc' := 125) D_Md_seated_4.1.2.1.1 rfl) ?_
      refine z_bL (inL_w64 _) (fun v9 e10 f11 => ?_)
      refine z_s I (s_lstore (pc' := 127) (lv' := [(4, vL v9), (0, vR ad o), (1, vI x1), (2, vI x2), (3, vI x3), (6, vL l6)]) D_Md_seated_4.1.2.1.2 (by decide) rfl rfl) ?_
      refine z_s I (s_lload (pc' := 129) 5 rfl D_Md_seated_4.1.2.2.1 rfl) ?_
      refine z_s I (s_aload_n (pc' := 130) 1 rfl D_Md_seated_4.1.2.2.2 rfl rfl) ?_
      refine z_s I (s_iload_n (pc' := 131) 2 rfl D_Md_seated_4.2.1.1.1 rfl rfl) ?_
      refine z_b1 (fun r14 q13 => ?_)
      refine z_callV (pc' := 134) I mv_Md_nearNow ml_Md_347 (fun ad => [vI x1]) ⟨Nat.le_of_ble_eq_true rfl, Nat.le_of_ble_eq_true rfl⟩ ao (fun hh => c_Md_nearNow hw ao ax1 hh q13) rfl rfl (Nat.le_of_ble_eq_true rfl) D_Md_seated_4.2.1.1.2 rfl (fun f12 => ?_)
      refine z_s I (s_iload_n (pc' := 135) 4 rfl D_Md_seated_4.2.1.2.1 rfl rfl) ?_
      refine z_icmp_lt (tgt := 142) (pc' := 138) I f12 ax3 D_Md_seated_4.2.1.2.2 rfl rfl (fun c15 => ?_) (fun c15 => ?_)
      · refine z_s I (s_lconst (pc' := 143) (x := 0) D_Md_seated_4.2.2.2.1 rfl rfl) ?_
        refine z_s I (s_ladd (pc' := 144) D_Md_seated_4.2.2.2.2 rfl) ?_
        refine z_bL (inL_w64 _) (fun v16 e17 f18 => ?_)
        refine z_s I (s_lstore (pc' := 146) (lv' := [(6, vL v16), (4, vL v9), (0, vR ad o), (1, vI x1), (2, vI x2), (3, vI x3)]) D_Md_seated_5.1.1 (by decide) rfl rfl) ?_
        refine z_s I (s_goto (tgt := 114) D_Md_seated_5.1.2.1 rfl) ?_
        refine z_s I (s_lv (lv' := [(0, vR ad o), (1, vI x1), (2, vI x2), (3, vI x3), (4, vL v9), (6, vL v16)]) [2, 3, 4, 5, 1, 0] rfl) ?_
        exact z_end (fun g => hin1_1 _ g ⟨f11, f18⟩)
      · refine z_s I (s_lconst (pc' := 139) (x := 1) D_Md_seated_4.2.2.1.1 rfl rfl) ?_
        refine z_s I (s_goto (tgt := 143) D_Md_seated_4.2.2.1.2 rfl) ?_
        refine z_s I (s_ladd (pc' := 144) D_Md_seated_4.2.2.2.2 rfl) ?_
        refine z_bL (inL_w64 _) (fun v19 e20 f21 => ?_)
        refine z_s I (s_lstore (pc' := 146) (lv' := [(6, vL v19), (4, vL v9), (0, vR ad o), (1, vI x1), (2, vI x2), (3, vI x3)]) D_Md_seated_5.1.1 (by decide) rfl rfl) ?_
        refine z_s I (s_goto (tgt := 114) D_Md_seated_5.1.2.1 rfl) ?_
        refine z_s I (s_lv (lv' := [(0, vR ad o), (1, vI x1), (2, vI x2), (3, vI x3), (4, vL v9), (6, vL v19)]) [2, 3, 4, 5, 1, 0] rfl) ?_
        exact z_end (fun g => hin1_1 _ g ⟨f11, f21⟩)
  have J102 : ∀ (h : HP), Z Y (m_Md_seated_J102 o x1 x2 h) G0 h 102 [(0, vR ad o), (1, vI x1), (2, vI x2)] [] := by
    intro h
    unfold m_Md_seated_J102
    refine z_s I (s_aload_n (pc' := 103) 0 rfl D_Md_seated_3.1.2.2.2 rfl rfl) ?_
    refine z_s I (s_iload_n (pc' := 104) 1 rfl D_Md_seated_3.2.1.1.1 rfl rfl) ?_
    refine z_b1 (fun r24 q23 => ?_)
    refine z_callV (pc' := 107) I mv_Md_nearNow ml_Md_347 (fun ad => [vI x1]) ⟨Nat.le_of_ble_eq_true rfl, Nat.le_of_ble_eq_true rfl⟩ ao (fun hh => c_Md_nearNow hw ao ax1 hh q23) rfl rfl (Nat.le_of_ble_eq_true rfl) D_Md_seated_3.2.1.1.2 rfl (fun f22 => ?_)
    refine z_s I (s_istore_n (pc' := 108) (lv' := [(3, vI r24), (0, vR ad o), (1, vI x1), (2, vI x2)]) D_Md_seated_3.2.1.2.1 rfl (by decide) rfl rfl) ?_
    refine z_s I (s_lconst (pc' := 109) (x := 1) D_Md_seated_3.2.1.2.2 rfl rfl) ?_
    refine z_s I (s_lstore (pc' := 111) (lv' := [(4, vL 1), (3, vI r24), (0, vR ad o), (1, vI x1), (2, vI x2)]) D_Md_seated_3.2.2.1.1 (by decide) rfl rfl) ?_
    refine z_s I (s_lconst (pc' := 112) (x := 1) D_Md_seated_3.2.2.1.2 rfl rfl) ?_
    refine z_s I (s_lstore (pc' := 114) (lv' := [(6, vL 1), (4, vL 1), (3, vI r24), (0, vR ad o), (1, vI x1), (2, vI x2)]) D_Md_seated_3.2.2.2.1 (by decide) rfl rfl) ?_
    refine z_s I (s_lv (lv' := [(0, vR ad o), (1, vI x1), (2, vI x2), (3, vI r24), (4, vL 1), (6, vL 1)]) [3, 4, 5, 2, 1, 0] rfl) ?_
    exact L114 _ f22 _ ⟨(inL_c (x := 1) rfl), (inL_c (x := 1) rfl)⟩
  have L37 : ∀ (s : Int × HP), (inR (s.1)) → Z Y (m_Md_seated_L37 o x1 x2 s) G0 (s.2) 37 [(0, vR ad o), (1, vI x1), (2, vI x2), (3, vI (s.1))] [] := by
    intro s hs
    refine z_loop (G := G0) (hO := fun s : Int × HP => s.2) (lO := fun s : Int × HP => [(0, vR ad o), (1, vI x1), (2, vI x2), (3, vI (s.1))]) (Φ := fun s : Int × HP => inR (s.1)) (fun G1 hin1_1 hout1 s hs => ?_) FUEL s hs
    obtain ⟨x3, h⟩ := s
    have ax3 := hs
    have gk1 := fun (x : Int) (y : HP) (g : G1 (.inr ((x, y)))) (q : inL x) => gk0 x y (hout1 _ g) q
    show Z Y (m_Md_seated_L37b o x1 x2 x3 h) G1 h 37 [(0, vR ad o), (1, vI x1), (2, vI x2), (3, vI x3)] []
    unfold m_Md_seated_L37b
    refine z_s I (s_iload_n (pc' := 38) 3 rfl D_Md_seated_1.1.2.1.2 rfl rfl) ?_
    refine z_s I (s_aload_n (pc' := 39) 0 rfl D_Md_seated_1.1.2.2.1 rfl rfl) ?_
    refine z_getI (pc' := 42) (jI := 1) I g_Md_123 ao rfl rfl D_Md_seated_1.1.2.2.2 rfl (fun f25 => ?_)
    refine z_icmp_ge (tgt := 102) (pc' := 45) I ax3 f25 D_Md_seated_1.2.1.1.1 rfl rfl (fun c26 => ?_) (fun c26 => ?_)
    · refine z_map _ (fun x g => hout1 x g) ?_
      refine z_s I (s_lv (lv' := [(0, vR ad o), (1, vI x1), (2, vI x2)]) [0, 1, 2] rfl) ?_
      exact J102 _
    · refine z_s I (s_aload_n (pc' := 46) 0 rfl D_Md_seated_1.2.1.1.2 rfl rfl) ?_
      refine z_getI (pc' := 49) (jI := 38) I g_Md_341 ao rfl rfl D_Md_seated_1.2.1.2.1 rfl (fun f27 => ?_)
      refine z_s I (s_bipush (pc' := 51) D_Md_seated_1.2.1.2.2 rfl rfl) ?_
      refine z_icmp_ge (tgt := 102) (pc' := 54) I f27 (inR_c (x := 6) rfl) D_Md_seated_1.2.2.1.1 rfl rfl (fun c28 => ?_) (fun c28 => ?_)
      · refine z_map _ (fun x g => hout1 x g) ?_
        refine z_s I (s_lv (lv' := [(0, vR ad o), (1, vI x1), (2, vI x2)]) [0, 1, 2] rfl) ?_
        exact J102 _
      · refine z_s I (s_aload_n (pc' := 55) 0 rfl D_Md_seated_1.2.2.1.2 rfl rfl) ?_
        refine z_getR (pc' := 58) (eI := o + 5) I g_Md_28 ao rfl (by omega) D_Md_seated_1.2.2.2.1 rfl ?_
        have k29 : ok τ (0, 8) (o + 5) := r_Md_row hw ao (by omega)
        refine z_s I (s_iload_n (pc' := 59) 3 rfl D_Md_seated_1.2.2.2.2 rfl rfl) ?_
        refine z_iald (pc' := 60) (nI := 8) I k29 ax3 rfl D_Md_seated_2.1.1.1.1 rfl (fun c30 f31 => ?_)
        refine z_if_lt (tgt := 96) (pc' := 63) I f31 D_Md_seated_2.1.1.1.2 rfl rfl (fun c32 => ?_) (fun c32 => ?_)
        · refine z_s I (s_iinc (pc' := 99) (lv' := [(3, vI (w32 (x3 + 1))), (0, vR ad o), (1, vI x1), (2, vI x2)]) (n := 3) rfl D_Md_seated_3.1.2.1.2 (by decide) rfl rfl) ?_
          refine z_s I (s_goto (tgt := 37) D_Md_seated_3.1.2.2.1 rfl) ?_
          refine z_s I (s_lv (lv' := [(0, vR ad o), (1, vI x1), (2, vI x2), (3, vI (w32 (x3 + 1)))]) [1, 2, 3, 0] rfl) ?_
          exact z_end (fun g => hin1_1 _ g (inR_w32 _))
        · refine z_s I (s_aload_n (pc' := 64) 0 rfl D_Md_seated_2.1.1.2.1 rfl rfl) ?_
          refine z_getR (pc' := 67) (eI := o + 24) I g_Md_87 ao rfl (by omega) D_Md_seated_2.1.1.2.2 rfl ?_
          have k33 : ok τ (0, 6) (o + 24) := r_Md_sits hw ao (by omega)
          refine z_s I (s_aload_n (pc' := 68) 0 rfl D_Md_seated_2.1.2.1.1 rfl rfl) ?_
          refine z_getI (pc' := 71) (jI := 38) I g_Md_341 ao rfl rfl D_Md_seated_2.1.2.1.2 rfl (fun f34 => ?_)
          refine z_s I (s_iload_n (pc' := 72) 3 rfl D_Md_seated_2.1.2.2.1 rfl rfl) ?_
          refine z_iast (pc' := 73) (nI := 6) I k33 f34 ax3 rfl D_Md_seated_2.1.2.2.2 rfl (fun c35 => ?_)
          refine z_bH (fun h36 e37 => ?_)
          refine z_s I (s_aload_n (pc' := 74) 0 rfl D_Md_seated_2.2.1.1.1 rfl rfl) ?_
          refine z_getR (pc' := 77) (eI := o + 25) I g_Md_90 ao rfl (by omega) D_Md_seated_2.2.1.1.2 rfl ?_
          have k38 : ok τ (0, 6) (o + 25) := r_Md_seatOf hw ao (by omega)
          refine z_s I (s_aload_n (pc' := 78) 0 rfl D_Md_seated_2.2.1.2.1 rfl rfl) ?_
          refine z_getI (pc' := 81) (jI := 38) I g_Md_341 ao rfl rfl D_Md_seated_2.2.1.2.2 rfl (fun f39 => ?_)
          refine z_s I (s_aload_n (pc' := 82) 0 rfl D_Md_seated_2.2.2.1.1 rfl rfl) ?_
          refine z_getI (pc' := 85) (jI := 38) I g_Md_341 ao rfl rfl D_Md_seated_2.2.2.1.2 rfl (fun f40 => ?_)
          refine z_iast (pc' := 86) (nI := 6) I k38 f39 f40 rfl D_Md_seated_2.2.2.2.1 rfl (fun c41 => ?_)
          refine z_bH (fun h42 e43 => ?_)
          refine z_s I (s_aload_n (pc' := 87) 0 rfl D_Md_seated_2.2.2.2.2 rfl rfl) ?_
          refine z_s I (s_dup (pc' := 88) rfl D_Md_seated_3.1.1.1.1 rfl) ?_
          refine z_getI (pc' := 91) (jI := 38) I g_Md_341 ao rfl rfl D_Md_seated_3.1.1.1.2 rfl (fun f44 => ?_)
          refine z_s I (s_iconst (pc' := 92) D_Md_seated_3.1.1.2.1 rfl) ?_
          refine z_s I (s_iadd (pc' := 93) D_Md_seated_3.1.1.2.2 rfl) ?_
          refine z_putI (pc' := 96) (jI := 38) I p_Md_341 ao rfl rfl (inR_w32 _) D_Md_seated_3.1.2.1.1 rfl ?_
          refine z_bH (fun h45 e46 => ?_)
          refine z_s I (s_iinc (pc' := 99) (lv' := [(3, vI (w32 (x3 + 1))), (0, vR ad o), (1, vI x1), (2, vI x2)]) (n := 3) rfl D_Md_seated_3.1.2.1.2 (by decide) rfl rfl) ?_
          refine z_s I (s_goto (tgt := 37) D_Md_seated_3.1.2.2.1 rfl) ?_
          refine z_s I (s_lv (lv' := [(0, vR ad o), (1, vI x1), (2, vI x2), (3, vI (w32 (x3 + 1)))]) [1, 2, 3, 0] rfl) ?_
          exact z_end (fun g => hin1_1 _ g (inR_w32 _))
  have main : Z Y (m_Md_seated o x1 x2 h) G0 h 0 [(0, vR ad o), (1, vI x1), (2, vI x2)] [] := by
    unfold m_Md_seated
    refine z_s I (s_iload_n (pc' := 1) 1 rfl D_Md_seated_0.1.1.1.1 rfl rfl) ?_
    refine z_s I (s_i2l (pc' := 2) ax1 D_Md_seated_0.1.1.1.2 rfl) ?_
    refine z_s I (s_lconst (pc' := 3) (x := 1) D_Md_seated_0.1.1.2.1 rfl rfl) ?_
    refine z_ldc2 (pc' := 6) (x := 9) I cl_Md_170 (by decide +kernel) D_Md_seated_0.1.1.2.2 rfl ?_
    refine z_b1 (fun r49 q48 => ?_)
    refine z_callS (pc' := 9) I mv_Md_in ml_Md_119 (fun ad => [vL x1, vL 1, vL 9]) ⟨Nat.le_of_ble_eq_true rfl, Nat.le_of_ble_eq_true rfl⟩ (fun hh => c_Md_in hw (ax1).L (inL_c (x := 1) rfl) (inL_c (x := 9) rfl) hh q48) rfl rfl (Nat.le_of_ble_eq_true rfl) D_Md_seated_0.1.2.1.1 rfl (fun f47 => ?_)
    refine z_if_eq (tgt := 22) (pc' := 12) I (b01.R f47) D_Md_seated_0.1.2.1.2 rfl rfl (fun c50 => ?_) (fun c50 => ?_)
    · refine z_ldc2 (pc' := 25) (x := (-9223372036854775808)) I cl_Md_259 (by decide +kernel) D_Md_seated_0.2.2.1.1 rfl ?_
      exact z_ret (w := some (vL (-9223372036854775808))) I (fun g => gk0 _ _ g (inL_c (x := (-9223372036854775808)) rfl)) ⟨_, rfl⟩ D_Md_seated_0.2.2.1.2 rfl
    · refine z_s I (s_iload_n (pc' := 13) 2 rfl D_Md_seated_0.1.2.2.1 rfl rfl) ?_
      refine z_s I (s_i2l (pc' := 14) ax2 D_Md_seated_0.1.2.2.2 rfl) ?_
      refine z_s I (s_lconst (pc' := 15) (x := 0) D_Md_seated_0.2.1.1.1 rfl rfl) ?_
      refine z_s I (s_lconst (pc' := 16) (x := 1) D_Md_seated_0.2.1.1.2 rfl rfl) ?_
      refine z_b1 (fun r53 q52 => ?_)
      refine z_callS (pc' := 19) I mv_Md_in ml_Md_119 (fun ad => [vL x2, vL 0, vL 1]) ⟨Nat.le_of_ble_eq_true rfl, Nat.le_of_ble_eq_true rfl⟩ (fun hh => c_Md_in hw (ax2).L (inL_c (x := 0) rfl) (inL_c (x := 1) rfl) hh q52) rfl rfl (Nat.le_of_ble_eq_true rfl) D_Md_seated_0.2.1.2.1 rfl (fun f51 => ?_)
      refine z_if_ne (tgt := 26) (pc' := 22) I (b01.R f51) D_Md_seated_0.2.1.2.2 rfl rfl (fun c54 => ?_) (fun c54 => ?_)
      · refine z_s I (s_aload_n (pc' := 27) 0 rfl D_Md_seated_0.2.2.2.1 rfl rfl) ?_
        refine z_b1 (fun h57 q56 => ?_)
        refine z_callV (pc' := 30) I mv_Md_orders ml_Md_300 (fun ad => []) ⟨Nat.le_of_ble_eq_true rfl, Nat.le_of_ble_eq_true rfl⟩ ao (fun hh => c_Md_orders hw ao hh q56) rfl rfl (Nat.le_of_ble_eq_true rfl) D_Md_seated_0.2.2.2.2 rfl (fun f55 => ?_)
        refine z_s I (s_aload_n (pc' := 31) 0 rfl D_Md_seated_1.1.1.1.1 rfl rfl) ?_
        refine z_s I (s_iconst (pc' := 32) D_Md_seated_1.1.1.1.2 rfl) ?_
        refine z_putI (pc' := 35) (jI := 38) I p_Md_341 ao rfl rfl (b01.R bz0) D_Md_seated_1.1.1.2.1 rfl ?_
        refine z_bH (fun h58 e59 => ?_)
        refine z_s I (s_iconst (pc' := 36) D_Md_seated_1.1.1.2.2 rfl) ?_
        refine z_s I (s_istore_n (pc' := 37) (lv' := [(3, vI 0), (0, vR ad o), (1, vI x1), (2, vI x2)]) D_Md_seated_1.1.2.1.1 rfl (by decide) rfl rfl) ?_
        refine z_s I (s_lv (lv' := [(0, vR ad o), (1, vI x1), (2, vI x2), (3, vI 0)]) [1, 2, 3, 0] rfl) ?_
        exact L37 _ (b01.R bz0)
      · refine z_ldc2 (pc' := 25) (x := (-9223372036854775808)) I cl_Md_259 (by decide +kernel) D_Md_seated_0.2.2.1.1 rfl ?_
        exact z_ret (w := some (vL (-9223372036854775808))) I (fun g => gk0 _ _ g (inL_c (x := (-9223372036854775808)) rfl)) ⟨_, rfl⟩ D_Md_seated_0.2.2.1.2 rfl
  exact main _ hF (by rw [hG0])
set_option maxHeartbeats 4000000 in
set_option maxRecDepth 20000 in
theorem c_Md_draw {l : Launch} {τ : TP} {o : Int} {x1 : Int} {h : HP} {r : Int} {h' : HP} (hw : wf τ) (ao : ok τ (4, 10) o) (ax1 : inR x1) (hh : hr τ h) (hF : m_Md_draw o x1 h = some (r, h')) : Ctr l y_Md_draw k_Md_draw 2 (Option.some FieldType.int) 0 0 τ (fun ad => [vR ad o, vI x1]) h (some (vI r)) h' (inR r) := by
  refine ctr_of (by decide) hw hh (fun ad => Nat.le_of_ble_eq_true rfl) (fun ad K Y I hK => ?_)
  obtain ⟨G0, hG0⟩ : ∃ G : Int × HP → Prop, G = fun x => x = (r, h') := ⟨_, rfl⟩
  have gk0 : ∀ (x : Int) (y : HP), G0 (x, y) → inR x → K (some (vI x)) y := fun x y g q => by
    rw [hG0] at g
    cases g
    exact hK q
  have main : Z Y (m_Md_draw o x1 h) G0 h 0 [(0, vR ad o), (1, vI x1)] [] := by
    unfold m_Md_draw
    refine z_s I (s_aload_n (pc' := 1) 0 rfl D_Md_draw_0.1.1.1 rfl rfl) ?_
    refine z_s I (s_aload_n (pc' := 2) 0 rfl D_Md_draw_0.1.1.2.1 rfl rfl) ?_
    refine z_getI (pc' := 5) (jI := 39) I g_Md_354 ao rfl rfl D_Md_draw_0.1.1.2.2 rfl (fun f1 => ?_)
    refine z_ldcw (pc' := 8) (x := 1103515245) I cn_Md_357 (by decide +kernel) D_Md_draw_0.1.2.1.1 rfl ?_
    refine z_s I (s_imul (pc' := 9) D_Md_draw_0.1.2.1.2 rfl) ?_
    refine z_s I (s_sipush (pc' := 12) D_Md_draw_0.1.2.2.1 rfl rfl) ?_
    refine z_s I (s_iadd (pc' := 13) D_Md_draw_0.1.2.2.2 rfl) ?_
    refine z_putI (pc' := 16) (jI := 39) I p_Md_354 ao rfl rfl (inR_w32 _) D_Md_draw_0.2.1.1.1 rfl ?_
    refine z_bH (fun h2 e3 => ?_)
    refine z_s I (s_aload_n (pc' := 17) 0 rfl D_Md_draw_0.2.1.1.2 rfl rfl) ?_
    refine z_getI (pc' := 20) (jI := 39) I g_Md_354 ao rfl rfl D_Md_draw_0.2.1.2.1 rfl (fun f4 => ?_)
    refine z_s I (s_bipush (pc' := 22) D_Md_draw_0.2.1.2.2 rfl rfl) ?_
    refine z_s I (s_iushr (pc' := 23) D_Md_draw_0.2.2.1.1 rfl) ?_
    refine z_s I (s_iload_n (pc' := 24) 1 rfl D_Md_draw_0.2.2.1.2 rfl rfl) ?_
    refine z_irem (pc' := 25) I ax1 D_Md_draw_0.2.2.2.1 rfl (fun c5 => ?_)
    exact z_ret (w := some (vI (iRem (iUshr (h2 o 39) 9) x1))) I (fun g => gk0 _ _ g (r_iRem _ _)) ⟨_, rfl⟩ D_Md_draw_0.2.2.2.2 rfl
  exact main _ hF (by rw [hG0])
set_option maxHeartbeats 4000000 in
set_option maxRecDepth 20000 in
theorem c_Md_answersAnew {l : Launch} {τ : TP} {o : Int} {x1 : Int} {x2 : Int} {x3 : Int} {h : HP} {r : Int} {h' : HP} (hw : wf τ) (ao : ok τ (4, 10) o) (ax1 : inR x1) (ax2 : inR x2) (ax3 : inR x3) (hh : hr τ h) (hF : m_Md_answersAnew o x1 x2 x3 h = some (r, h')) : Ctr l y_Md_answersAnew k_Md_answersAnew 6 (Option.some FieldType.int) 3 76 τ (fun ad => [vR ad o, vI x1, vI x2, vI x3]) h (some (vI r)) h' (inR r) := by
  refine ctr_of (by decide) hw hh (fun ad => Nat.le_of_ble_eq_true rfl) (fun ad K Y I hK => ?_)
  obtain ⟨G0, hG0⟩ : ∃ G : Int × HP → Prop, G = fun x => x = (r, h') := ⟨_, rfl⟩
  have gk0 : ∀ (x : Int) (y : HP), G0 (x, y) → inR x → K (some (vI x)) y := fun x y g q => by
    rw [hG0] at g
    cases g
    exact hK q
  have L17 : ∀ (h : HP) (s : Int × Int), (inR (s.1) ∧ inR (s.2)) → Z Y (m_Md_answersAnew_L17 o x1 x2 x3 h s) G0 h 17 [(0, vR ad o), (1, vI x1), (2, vI x2), (3, vI x3), (4, vI (s.1)), (5, vI (s.2))] [] := by
    intro h s hs
    refine z_loop (G := G0) (hO := fun s : Int × Int => h) (lO := fun s : Int × Int => [(0, vR ad o), (1, vI x1), (2, vI x2), (3, vI x3), (4, vI (s.1)), (5, vI (s.2))]) (Φ := fun s : Int × Int => inR (s.1) ∧ inR (s.2)) (fun G1 hin1_1 hout1 s hs => ?_) FUEL s hs
    obtain ⟨x4, x5⟩ := s
    obtain ⟨ax4, ax5⟩ := hs
    have gk1 := fun (x : Int) (y : HP) (g : G1 (.inr ((x, y)))) (q : inR x) => gk0 x y (hout1 _ g) q
    show Z Y (m_Md_answersAnew_L17b o x1 x2 x3 h x4 x5) G1 h 17 [(0, vR ad o), (1, vI x1), (2, vI x2), (3, vI x3), (4, vI x4), (5, vI x5)] []
    unfold m_Md_answersAnew_L17b
    refine z_s I (s_iload (pc' := 19) 4 rfl D_Md_answersAnew_0.2.1.2.2 rfl) ?_
    refine z_s I (s_aload_n (pc' := 20) 0 rfl D_Md_answersAnew_0.2.2.1.1 rfl rfl) ?_
    refine z_s I (s_iload_n (pc' := 21) 1 rfl D_Md_answersAnew_0.2.2.1.2 rfl rfl) ?_
    refine z_s I (s_iload (pc' := 23) 5 rfl D_Md_answersAnew_0.2.2.2.1 rfl) ?_
    refine z_s I (s_iload_n (pc' := 24) 2 rfl D_Md_answersAnew_0.2.2.2.2 rfl rfl) ?_
    refine z_s I (s_iload_n (pc' := 25) 3 rfl D_Md_answersAnew_1.1.1.1.1 rfl rfl) ?_
    refine z_b1 (fun r3 q2 => ?_)
    refine z_callV (pc' := 28) I mv_Md_shareOf ml_Md_227 (fun ad => [vI x1, vI x5, vI x2, vI x3]) ⟨Nat.le_of_ble_eq_true rfl, Nat.le_of_ble_eq_true rfl⟩ ao (fun hh => c_Md_shareOf hw ao ax1 ax5 ax2 ax3 hh q2) rfl rfl (Nat.le_of_ble_eq_true rfl) D_Md_answersAnew_1.1.1.1.2 rfl (fun f1 => ?_)
    refine z_icmp_lt (tgt := 51) (pc' := 31) I ax4 f1 D_Md_answersAnew_1.1.1.2.1 rfl rfl (fun c4 => ?_) (fun c4 => ?_)
    · refine z_s I (s_iload (pc' := 53) 5 rfl D_Md_answersAnew_1.2.2.2.1 rfl) ?_
      exact z_ret (w := some (vI x5)) I (fun g => gk1 _ _ g ax5) ⟨_, rfl⟩ D_Md_answersAnew_1.2.2.2.2 rfl
    · refine z_s I (s_iload (pc' := 33) 4 rfl D_Md_answersAnew_1.1.1.2.2 rfl) ?_
      refine z_s I (s_aload_n (pc' := 34) 0 rfl D_Md_answersAnew_1.1.2.1.1 rfl rfl) ?_
      refine z_s I (s_iload_n (pc' := 35) 1 rfl D_Md_answersAnew_1.1.2.1.2 rfl rfl) ?_
      refine z_s I (s_iload (pc' := 37) 5 rfl D_Md_answersAnew_1.1.2.2.1 rfl) ?_
      refine z_s I (s_iload_n (pc' := 38) 2 rfl D_Md_answersAnew_1.1.2.2.2 rfl rfl) ?_
      refine z_s I (s_iload_n (pc' := 39) 3 rfl D_Md_answersAnew_1.2.1.1.1 rfl rfl) ?_
      refine z_b1 (fun r7 q6 => ?_)
      refine z_callV (pc' := 42) I mv_Md_shareOf ml_Md_227 (fun ad => [vI x1, vI x5, vI x2, vI x3]) ⟨Nat.le_of_ble_eq_true rfl, Nat.le_of_ble_eq_true rfl⟩ ao (fun hh => c_Md_shareOf hw ao ax1 ax5 ax2 ax3 hh q6) rfl rfl (Nat.le_of_ble_eq_true rfl) D_Md_answersAnew_1.2.1.1.2 rfl (fun f5 => ?_)
      refine z_s I (s_isub (pc' := 43) D_Md_answersAnew_1.2.1.2.1 rfl) ?_
      refine z_bI (inR_w32 _) (fun v8 e9 f10 => ?_)
      refine z_s I (s_istore (pc' := 45) (lv' := [(4, vI v8), (0, vR ad o), (1, vI x1), (2, vI x2), (3, vI x3), (5, vI x5)]) D_Md_answersAnew_1.2.1.2.2 (by decide) rfl rfl) ?_
      refine z_s I (s_iinc (pc' := 48) (lv' := [(5, vI (w32 (x5 + 1))), (4, vI v8), (0, vR ad o), (1, vI x1), (2, vI x2), (3, vI x3)]) (n := 5) rfl D_Md_answersAnew_1.2.2.1.1 (by decide) rfl rfl) ?_
      refine z_s I (s_goto (tgt := 17) D_Md_answersAnew_1.2.2.1.2 rfl) ?_
      refine z_s I (s_lv (lv' := [(0, vR ad o), (1, vI x1), (2, vI x2), (3, vI x3), (4, vI v8), (5, vI (w32 (x5 + 1)))]) [2, 3, 4, 5, 1, 0] rfl) ?_
      exact z_end (fun g => hin1_1 _ g ⟨f10, (inR_w32 _)⟩)
  have main : Z Y (m_Md_answersAnew o x1 x2 x3 h) G0 h 0 [(0, vR ad o), (1, vI x1), (2, vI x2), (3, vI x3)] [] := by
    unfold m_Md_answersAnew
    refine z_s I (s_aload_n (pc' := 1) 0 rfl D_Md_answersAnew_0.1.1.1.1 rfl rfl) ?_
    refine z_s I (s_aload_n (pc' := 2) 0 rfl D_Md_answersAnew_0.1.1.1.2 rfl rfl) ?_
    refine z_s I (s_iload_n (pc' := 3) 1 rfl D_Md_answersAnew_0.1.1.2.1 rfl rfl) ?_
    refine z_s I (s_iconst (pc' := 4) D_Md_answersAnew_0.1.1.2.2 rfl) ?_
    refine z_s I (s_iload_n (pc' := 5) 2 rfl D_Md_answersAnew_0.1.2.1.1 rfl rfl) ?_
    refine z_s I (s_iload_n (pc' := 6) 3 rfl D_Md_answersAnew_0.1.2.1.2 rfl rfl) ?_
    refine z_b1 (fun r13 q12 => ?_)
    refine z_callV (pc' := 9) I mv_Md_sumBut ml_Md_233 (fun ad => [vI x1, vI (-1), vI x2, vI x3]) ⟨Nat.le_of_ble_eq_true rfl, Nat.le_of_ble_eq_true rfl⟩ ao (fun hh => c_Md_sumBut hw ao ax1 (inR_c (x := (-1)) rfl) ax2 ax3 hh q12) rfl rfl (Nat.le_of_ble_eq_true rfl) D_Md_answersAnew_0.1.2.2.1 rfl (fun f11 => ?_)
    refine z_b2 (fun r16 h17 q15 => ?_)
    refine z_callV (pc' := 12) I mv_Md_draw ml_Md_358 (fun ad => [vI r13]) ⟨Nat.le_of_ble_eq_true rfl, Nat.le_of_ble_eq_true rfl⟩ ao (fun hh => c_Md_draw hw ao f11 hh q15) rfl rfl (Nat.le_of_ble_eq_true rfl) D_Md_answersAnew_0.1.2.2.2 rfl (fun f14 => ?_)
    refine z_s I (s_istore (pc' := 14) (lv' := [(4, vI r16), (0, vR ad o), (1, vI x1), (2, vI x2), (3, vI x3)]) D_Md_answersAnew_0.2.1.1.1 (by decide) rfl rfl) ?_
    refine z_s I (s_iconst (pc' := 15) D_Md_answersAnew_0.2.1.1.2 rfl) ?_
    refine z_s I (s_istore (pc' := 17) (lv' := [(5, vI 0), (4, vI r16), (0, vR ad o), (1, vI x1), (2, vI x2), (3, vI x3)]) D_Md_answersAnew_0.2.1.2.1 (by decide) rfl rfl) ?_
    refine z_s I (s_lv (lv' := [(0, vR ad o), (1, vI x1), (2, vI x2), (3, vI x3), (4, vI r16), (5, vI 0)]) [2, 3, 4, 5, 1, 0] rfl) ?_
    exact L17 _ _ ⟨f14, (b01.R bz0)⟩
  exact main _ hF (by rw [hG0])
set_option maxHeartbeats 4000000 in
set_option maxRecDepth 20000 in
theorem c_Md_drawnBy {l : Launch} {τ : TP} {o : Int} {x1 : Int} {x2 : Int} {x3 : Int} {h : HP} {r : Int} {h' : HP} (hw : wf τ) (ao : ok τ (4, 10) o) (ax1 : inR x1) (ax2 : inR x2) (ax3 : inR x3) (hh : hr τ h) (hF : m_Md_drawnBy o x1 x2 x3 h = some (r, h')) : Ctr l y_Md_drawnBy k_Md_drawnBy 8 (Option.some FieldType.int) 4 101 τ (fun ad => [vR ad o, vI x1, vI x2, vI x3]) h (some (vI r)) h' (inR r) := by
  refine ctr_of (by decide) hw hh (fun ad => Nat.le_of_ble_eq_true rfl) (fun ad K Y I hK => ?_)
  obtain ⟨G0, hG0⟩ : ∃ G : Int × HP → Prop, G = fun x => x = (r, h') := ⟨_, rfl⟩
  have gk0 : ∀ (x : Int) (y : HP), G0 (x, y) → inR x → K (some (vI x)) y := fun x y g q => by
    rw [hG0] at g
    cases g
    exact hK q
  have L11 : ∀ (s : Int × Int × HP), (inR (s.1) ∧ inR (s.2.1)) → Z Y (m_Md_drawnBy_L11 o x2 x3 s) G0 (s.2.2) 11 [(0, vR ad o), (2, vI x2), (3, vI x3), (4, vI (s.1)), (5, vI (s.2.1))] [] := by
    intro s hs
    refine z_loop (G := G0) (hO := fun s : Int × Int × HP => s.2.2) (lO := fun s : Int × Int × HP => [(0, vR ad o), (2, vI x2), (3, vI x3), (4, vI (s.1)), (5, vI (s.2.1))]) (Φ := fun s : Int × Int × HP => inR (s.1) ∧ inR (s.2.1)) (fun G1 hin1_1 hout1 s hs => ?_) FUEL s hs
    obtain ⟨x4, x5, h⟩ := s
    obtain ⟨ax4, ax5⟩ := hs
    have gk1 := fun (x : Int) (y : HP) (g : G1 (.inr ((x, y)))) (q : inR x) => gk0 x y (hout1 _ g) q
    show Z Y (m_Md_drawnBy_L11b o x2 x3 x4 x5 h) G1 h 11 [(0, vR ad o), (2, vI x2), (3, vI x3), (4, vI x4), (5, vI x5)] []
    unfold m_Md_drawnBy_L11b
    refine z_s I (s_iload (pc' := 13) 4 rfl D_Md_drawnBy_0.1.2.2.2 rfl) ?_
    refine z_s I (s_aload_n (pc' := 14) 0 rfl D_Md_drawnBy_0.2.1.1.1 rfl rfl) ?_
    refine z_getI (pc' := 17) (jI := 0) I g_Md_9 ao rfl rfl D_Md_drawnBy_0.2.1.1.2 rfl (fun f1 => ?_)
    refine z_icmp_ge (tgt := 100) (pc' := 20) I ax5 f1 D_Md_drawnBy_0.2.1.2.1 rfl rfl (fun c2 => ?_) (fun c2 => ?_)
    · refine z_s I (s_iload (pc' := 102) 3 rfl D_Md_drawnBy_3.2.2.2.1 rfl) ?_
      exact z_ret (w := some (vI x4)) I (fun g => gk1 _ _ g ax4) ⟨_, rfl⟩ D_Md_drawnBy_3.2.2.2.2 rfl
    · refine z_s I (s_aload_n (pc' := 21) 0 rfl D_Md_drawnBy_0.2.1.2.2 rfl rfl) ?_
      refine z_getR (pc' := 24) (eI := o + 4) I g_Md_25 ao rfl (by omega) D_Md_drawnBy_0.2.2.1.1 rfl ?_
      have k3 : ok τ (0, 64) (o + 4) := r_Md_given hw ao (by omega)
      refine z_s I (s_bipush (pc' := 26) D_Md_drawnBy_0.2.2.1.2 rfl rfl) ?_
      refine z_s I (s_iload_n (pc' := 27) 1 rfl D_Md_drawnBy_0.2.2.2.1 rfl rfl) ?_
      refine z_s I (s_imul (pc' := 28) D_Md_drawnBy_0.2.2.2.2 rfl) ?_
      refine z_s I (s_iload (pc' := 30) 4 rfl D_Md_drawnBy_1.1.1.1.1 rfl) ?_
      refine z_s I (s_iadd (pc' := 31) D_Md_drawnBy_1.1.1.1.2 rfl) ?_
      refine z_iald (pc' := 32) (nI := 64) I k3 (inR_w32 _) rfl D_Md_drawnBy_1.1.1.2.1 rfl (fun c4 f5 => ?_)
      refine z_if_lt (tgt := 94) (pc' := 35) I f5 D_Md_drawnBy_1.1.1.2.2 rfl rfl (fun c6 => ?_) (fun c6 => ?_)
      · refine z_s I (s_iinc (pc' := 97) (lv' := [(5, vI (w32 (x5 + 1))), (0, vR ad o), (2, vI x2), (3, vI x3), (4, vI x4)]) (n := 4) rfl D_Md_drawnBy_3.2.1.2 (by decide) rfl rfl) ?_
        refine z_s I (s_goto (tgt := 11) D_Md_drawnBy_3.2.2.1 rfl) ?_
        refine z_s I (s_lv (lv' := [(0, vR ad o), (2, vI x2), (3, vI x3), (4, vI x4), (5, vI (w32 (x5 + 1)))]) [1, 2, 3, 4, 0] rfl) ?_
        exact z_end (fun g => hin1_1 _ g ⟨ax4, (inR_w32 _)⟩)
      · refine z_s I (s_aload_n (pc' := 36) 0 rfl D_Md_drawnBy_1.1.2.1.1 rfl rfl) ?_
        refine z_getR (pc' := 39) (eI := o + 4) I g_Md_25 ao rfl (by omega) D_Md_drawnBy_1.1.2.1.2 rfl ?_
        have k7 : ok τ (0, 64) (o + 4) := r_Md_given hw ao (by omega)
        refine z_s I (s_bipush (pc' := 41) D_Md_drawnBy_1.1.2.2.1 rfl rfl) ?_
        refine z_s I (s_iload_n (pc' := 42) 2 rfl D_Md_drawnBy_1.1.2.2.2 rfl rfl) ?_
        refine z_s I (s_imul (pc' := 43) D_Md_drawnBy_1.2.1.1.1 rfl) ?_
        refine z_s I (s_iload (pc' := 45) 4 rfl D_Md_drawnBy_1.2.1.1.2 rfl) ?_
        refine z_s I (s_iadd (pc' := 46) D_Md_drawnBy_1.2.1.2.1 rfl) ?_
        refine z_iald (pc' := 47) (nI := 64) I k7 (inR_w32 _) rfl D_Md_drawnBy_1.2.1.2.2 rfl (fun c8 f9 => ?_)
        refine z_if_lt (tgt := 94) (pc' := 50) I f9 D_Md_drawnBy_1.2.2.1.1 rfl rfl (fun c10 => ?_) (fun c10 => ?_)
        · refine z_s I (s_iinc (pc' := 97) (lv' := [(5, vI (w32 (x5 + 1))), (0, vR ad o), (2, vI x2), (3, vI x3), (4, vI x4)]) (n := 4) rfl D_Md_drawnBy_3.2.1.2 (by decide) rfl rfl) ?_
          refine z_s I (s_goto (tgt := 11) D_Md_drawnBy_3.2.2.1 rfl) ?_
          refine z_s I (s_lv (lv' := [(0, vR ad o), (2, vI x2), (3, vI x3), (4, vI x4), (5, vI (w32 (x5 + 1)))]) [1, 2, 3, 4, 0] rfl) ?_
          exact z_end (fun g => hin1_1 _ g ⟨ax4, (inR_w32 _)⟩)
        · refine z_s I (s_aload_n (pc' := 51) 0 rfl D_Md_drawnBy_1.2.2.1.2 rfl rfl) ?_
          refine z_s I (s_iload (pc' := 53) 4 rfl D_Md_drawnBy_1.2.2.2.1 rfl) ?_
          refine z_s I (s_iload_n (pc' := 54) 1 rfl D_Md_drawnBy_1.2.2.2.2 rfl rfl) ?_
          refine z_s I (s_iload_n (pc' := 55) 2 rfl D_Md_drawnBy_2.1.1.1.1 rfl rfl) ?_
          refine z_b2 (fun r13 h14 q12 => ?_)
          refine z_callV (pc' := 58) I mv_Md_answersAnew ml_Md_361 (fun ad => [vI x5, vI x2, vI x3]) ⟨Nat.le_of_ble_eq_true rfl, Nat.le_of_ble_eq_true rfl⟩ ao (fun hh => c_Md_answersAnew hw ao ax5 ax2 ax3 hh q12) rfl rfl (Nat.le_of_ble_eq_true rfl) D_Md_drawnBy_2.1.1.1.2 rfl (fun f11 => ?_)
          refine z_s I (s_istore (pc' := 60) (lv' := [(6, vI r13), (0, vR ad o), (2, vI x2), (3, vI x3), (4, vI x4), (5, vI x5)]) D_Md_drawnBy_2.1.1.2.1 (by decide) rfl rfl) ?_
          refine z_s I (s_aload_n (pc' := 61) 1 rfl D_Md_drawnBy_2.1.1.2.2 rfl rfl) ?_
          refine z_s I (s_iload (pc' := 63) 5 rfl D_Md_drawnBy_2.1.2.1.1 rfl) ?_
          refine z_s I (s_iload_n (pc' := 64) 2 rfl D_Md_drawnBy_2.1.2.1.2 rfl rfl) ?_
          refine z_s I (s_iload_n (pc' := 65) 3 rfl D_Md_drawnBy_2.1.2.2.1 rfl rfl) ?_
          refine z_b2 (fun r17 h18 q16 => ?_)
          refine z_callV (pc' := 68) I mv_Md_answersAnew ml_Md_361 (fun ad => [vI x5, vI x2, vI x3]) ⟨Nat.le_of_ble_eq_true rfl, Nat.le_of_ble_eq_true rfl⟩ ao (fun hh => c_Md_answersAnew hw ao ax5 ax2 ax3 hh q16) rfl rfl (Nat.le_of_ble_eq_true rfl) D_Md_drawnBy_2.1.2.2.2 rfl (fun f15 => ?_)
          refine z_s I (s_istore (pc' := 70) (lv' := [(7, vI r17), (6, vI r13), (0, vR ad o), (2, vI x2), (3, vI x3), (4, vI x4), (5, vI x5)]) D_Md_drawnBy_2.2.1.1.1 (by decide) rfl rfl) ?_
          refine z_s I (s_iload (pc' := 72) 5 rfl D_Md_drawnBy_2.2.1.1.2 rfl) ?_
          refine z_s I (s_iload (pc' := 74) 1 rfl D_Md_drawnBy_2.2.1.2.1 rfl) ?_
          refine z_s I (s_iload (pc' := 76) 0 rfl D_Md_drawnBy_2.2.1.2.2 rfl) ?_
          refine z_icmp_ne (tgt := 90) (pc' := 79) I f11 f15 D_Md_drawnBy_2.2.2.1.1 rfl rfl (fun c19 => ?_) (fun c19 => ?_)
          · refine z_s I (s_iconst (pc' := 91) D_Md_drawnBy_3.1.2.1 rfl) ?_
            refine z_s I (s_iadd (pc' := 92) D_Md_drawnBy_3.1.2.2 rfl) ?_
            refine z_bI (inR_w32 _) (fun v20 e21 f22 => ?_)
            refine z_s I (s_istore (pc' := 94) (lv' := [(4, vI v20), (7, vI r17), (6, vI r13), (0, vR ad o), (2, vI x2), (3, vI x3), (5, vI x5)]) D_Md_drawnBy_3.2.1.1 (by decide) rfl rfl) ?_
            refine z_s I (s_iinc (pc' := 97) (lv' := [(5, vI (w32 (x5 + 1))), (4, vI v20), (7, vI r17), (6, vI r13), (0, vR ad o), (2, vI x2), (3, vI x3)]) (n := 6) rfl D_Md_drawnBy_3.2.1.2 (by decide) rfl rfl) ?_
            refine z_s I (s_goto (tgt := 11) D_Md_drawnBy_3.2.2.1 rfl) ?_
            refine z_s I (s_lv (lv' := [(0, vR ad o), (2, vI x2), (3, vI x3), (4, vI v20), (5, vI (w32 (x5 + 1)))]) [4, 5, 6, 1, 0] rfl) ?_
            exact z_end (fun g => hin1_1 _ g ⟨f22, (inR_w32 _)⟩)
          · refine z_s I (s_aload_n (pc' := 80) 2 rfl D_Md_drawnBy_2.2.2.1.2 rfl rfl) ?_
            refine z_s I (s_iload (pc' := 82) 6 rfl D_Md_drawnBy_2.2.2.2.1 rfl) ?_
            refine z_s I (s_iload (pc' := 84) 1 rfl D_Md_drawnBy_2.2.2.2.2 rfl) ?_
            refine z_b1 (fun r25 q24 => ?_)
            refine z_callV (pc' := 87) I mv_Md_worth ml_Md_236 (fun ad => [vI x5, vI r13]) ⟨Nat.le_of_ble_eq_true rfl, Nat.le_of_ble_eq_true rfl⟩ ao (fun hh => c_Md_worth hw ao ax5 f11 hh q24) rfl rfl (Nat.le_of_ble_eq_true rfl) D_Md_drawnBy_3.1.1.1 rfl (fun f23 => ?_)
            refine z_s I (s_goto (tgt := 91) D_Md_drawnBy_3.1.1.2 rfl) ?_
            refine z_s I (s_iadd (pc' := 92) D_Md_drawnBy_3.1.2.2 rfl) ?_
            refine z_bI (inR_w32 _) (fun v26 e27 f28 => ?_)
            refine z_s I (s_istore (pc' := 94) (lv' := [(4, vI v26), (7, vI r17), (6, vI r13), (0, vR ad o), (2, vI x2), (3, vI x3), (5, vI x5)]) D_Md_drawnBy_3.2.1.1 (by decide) rfl rfl) ?_
            refine z_s I (s_iinc (pc' := 97) (lv' := [(5, vI (w32 (x5 + 1))), (4, vI v26), (7, vI r17), (6, vI r13), (0, vR ad o), (2, vI x2), (3, vI x3)]) (n := 6) rfl D_Md_drawnBy_3.2.1.2 (by decide) rfl rfl) ?_
            refine z_s I (s_goto (tgt := 11) D_Md_drawnBy_3.2.2.1 rfl) ?_
            refine z_s I (s_lv (lv' := [(0, vR ad o), (2, vI x2), (3, vI x3), (4, vI v26), (5, vI (w32 (x5 + 1)))]) [4, 5, 6, 1, 0] rfl) ?_
            exact z_end (fun g => hin1_1 _ g ⟨f28, (inR_w32 _)⟩)
  have main : Z Y (m_Md_drawnBy o x1 x2 x3 h) G0 h 0 [(0, vR ad o), (1, vI x1), (2, vI x2), (3, vI x3)] [] := by
    unfold m_Md_drawnBy
    refine z_s I (s_aload_n (pc' := 1) 0 rfl D_Md_drawnBy_0.1.1.1.1 rfl rfl) ?_
    refine z_s I (s_iload_n (pc' := 2) 1 rfl D_Md_drawnBy_0.1.1.1.2 rfl rfl) ?_
    refine z_putI (pc' := 5) (jI := 39) I p_Md_354 ao rfl rfl ax1 D_Md_drawnBy_0.1.1.2.1 rfl ?_
    refine z_bH (fun h29 e30 => ?_)
    refine z_s I (s_iconst (pc' := 6) D_Md_drawnBy_0.1.1.2.2 rfl) ?_
    refine z_s I (s_istore (pc' := 8) (lv' := [(4, vI 0), (0, vR ad o), (1, vI x1), (2, vI x2), (3, vI x3)]) D_Md_drawnBy_0.1.2.1.1 (by decide) rfl rfl) ?_
    refine z_s I (s_iconst (pc' := 9) D_Md_drawnBy_0.1.2.1.2 rfl) ?_
    refine z_s I (s_istore (pc' := 11) (lv' := [(5, vI 0), (4, vI 0), (0, vR ad o), (1, vI x1), (2, vI x2), (3, vI x3)]) D_Md_drawnBy_0.1.2.2.1 (by decide) rfl rfl) ?_
    refine z_s I (s_lv (lv' := [(0, vR ad o), (2, vI x2), (3, vI x3), (4, vI 0), (5, vI 0)]) [2, 4, 5, 1, 0] rfl) ?_
    exact L11 _ ⟨(b01.R bz0), (b01.R bz0)⟩
  exact main _ hF (by rw [hG0])
set_option maxHeartbeats 4000000 in
set_option maxRecDepth 20000 in
theorem c_Md_drawn {l : Launch} {τ : TP} {o : Int} {x1 : Int} {x2 : Int} {x3 : Int} {h : HP} {r : Int} {h' : HP} (hw : wf τ) (ao : ok τ (4, 10) o) (ax1 : inR x1) (ax2 : inR x2) (ax3 : inR x3) (hh : hr τ h) (hF : m_Md_drawn o x1 x2 x3 h = some (r, h')) : Ctr l y_Md_drawn k_Md_drawn 4 (Option.some FieldType.int) 5 128 τ (fun ad => [vR ad o, vI x1, vI x2, vI x3]) h (some (vI r)) h' (inR r) := by
  refine ctr_of (by decide) hw hh (fun ad => Nat.le_of_ble_eq_true rfl) (fun ad K Y I hK => ?_)
  obtain ⟨G0, hG0⟩ : ∃ G : Int × HP → Prop, G = fun x => x = (r, h') := ⟨_, rfl⟩
  have gk0 : ∀ (x : Int) (y : HP), G0 (x, y) → inR x → K (some (vI x)) y := fun x y g q => by
    rw [hG0] at g
    cases g
    exact hK q
  have main : Z Y (m_Md_drawn o x1 x2 x3 h) G0 h 0 [(0, vR ad o), (1, vI x1), (2, vI x2), (3, vI x3)] [] := by
    unfold m_Md_drawn
    refine z_s I (s_aload_n (pc' := 1) 0 rfl D_Md_drawn_0.1.1.1 rfl rfl) ?_
    refine z_s I (s_iload_n (pc' := 2) 2 rfl D_Md_drawn_0.1.1.2.1 rfl rfl) ?_
    refine z_s I (s_iload_n (pc' := 3) 3 rfl D_Md_drawn_0.1.1.2.2 rfl rfl) ?_
    refine z_b1 (fun r3 q2 => ?_)
    refine z_callV (pc' := 6) I mv_Md_isTwo ml_Md_230 (fun ad => [vI x2, vI x3]) ⟨Nat.le_of_ble_eq_true rfl, Nat.le_of_ble_eq_true rfl⟩ ao (fun hh => c_Md_isTwo hw ao ax2 ax3 hh q2) rfl rfl (Nat.le_of_ble_eq_true rfl) D_Md_drawn_0.1.2.1 rfl (fun f1 => ?_)
    refine z_if_eq (tgt := 19) (pc' := 9) I (b01.R f1) D_Md_drawn_0.1.2.2.1 rfl rfl (fun c4 => ?_) (fun c4 => ?_)
    · refine z_s I (s_iconst (pc' := 20) D_Md_drawn_0.2.2.2.1 rfl) ?_
      exact z_ret (w := some (vI (-1))) I (fun g => gk0 _ _ g (inR_c (x := (-1)) rfl)) ⟨_, rfl⟩ D_Md_drawn_0.2.2.2.2 rfl
    · refine z_s I (s_aload_n (pc' := 10) 0 rfl D_Md_drawn_0.1.2.2.2 rfl rfl) ?_
      refine z_s I (s_iload_n (pc' := 11) 1 rfl D_Md_drawn_0.2.1.1 rfl rfl) ?_
      refine z_s I (s_iload_n (pc' := 12) 2 rfl D_Md_drawn_0.2.1.2.1 rfl rfl) ?_
      refine z_s I (s_iload_n (pc' := 13) 3 rfl D_Md_drawn_0.2.1.2.2 rfl rfl) ?_
      refine z_b2 (fun r7 h8 q6 => ?_)
      refine z_callV (pc' := 16) I mv_Md_drawnBy ml_Md_364 (fun ad => [vI x1, vI x2, vI x3]) ⟨Nat.le_of_ble_eq_true rfl, Nat.le_of_ble_eq_true rfl⟩ ao (fun hh => c_Md_drawnBy hw ao ax1 ax2 ax3 hh q6) rfl rfl (Nat.le_of_ble_eq_true rfl) D_Md_drawn_0.2.2.1.1 rfl (fun f5 => ?_)
      refine z_s I (s_goto (tgt := 20) D_Md_drawn_0.2.2.1.2 rfl) ?_
      exact z_ret (w := some (vI r7)) I (fun g => gk0 _ _ g f5) ⟨_, rfl⟩ D_Md_drawn_0.2.2.2.2 rfl
  exact main _ hF (by rw [hG0])
