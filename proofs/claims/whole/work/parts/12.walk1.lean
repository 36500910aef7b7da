set_option maxHeartbeats 4000000 in
set_option maxRecDepth 20000 in
theorem c_Cb_alike {l : Launch} {τ : TP} {o : Int} {x1 : Int} {x2 : Int} {h : HP} {r : Int} (hw : wf τ) (ao : ok τ (4, 9) o) (ax1 : inR x1) (ax2 : inR x2) (hh : hr τ h) (hF : m_Cb_alike o x1 x2 h = some r) : Ctr l y_Cb_alike k_Cb_alike 3 (Option.some FieldType.int) 3 70 τ (fun ad => [vR ad o, vI x1, vI x2]) h (some (vI r)) h (inR r) := by
  refine ctr_of (by decide) hw hh (fun ad => Nat.le_of_ble_eq_true rfl) (fun ad K Y I hK => ?_)
  obtain ⟨G0, hG0⟩ : ∃ G : Int → Prop, G = fun x => x = r := ⟨_, rfl⟩
  have gk0 : ∀ (x : Int), G0 x → inR x → K (some (vI x)) h := fun x g q => by
    rw [hG0] at g
    cases g
    exact hK q
  have main : Z Y (m_Cb_alike o x1 x2 h) G0 h 0 [(0, vR ad o), (1, vI x1), (2, vI x2)] [] := by
    unfold m_Cb_alike
    refine z_s I (s_aload_n (pc' := 1) 0 rfl D_Cb_alike_0.1.1.1 rfl rfl) ?_
    refine z_getR (pc' := 4) (eI := o + 1) I g_Cb_12 ao rfl (by omega) D_Cb_alike_0.1.1.2.1 rfl ?_
    have k1 : ok τ (4, 1) (o + 1) := r_Cb_now hw ao (by omega)
    refine z_s I (s_iload_n (pc' := 5) 1 rfl D_Cb_alike_0.1.1.2.2 rfl rfl) ?_
    refine z_s I (s_iload_n (pc' := 6) 2 rfl D_Cb_alike_0.1.2.1.1 rfl rfl) ?_
    refine z_b1 (fun r4 q3 => ?_)
    refine z_callV (pc' := 9) I mv_Exam_hasTwo ml_Cb_193 (fun ad => [vI x1, vI x2]) ⟨Nat.le_of_ble_eq_true rfl, Nat.le_of_ble_eq_true rfl⟩ k1 (fun hh => c_Exam_hasTwo hw k1 ax1 ax2 hh q3) rfl rfl (Nat.le_of_ble_eq_true rfl) D_Cb_alike_0.1.2.1.2 rfl (fun f2 => ?_)
    refine z_if_eq (tgt := 24) (pc' := 12) I (b01.R f2) D_Cb_alike_0.1.2.2.1 rfl rfl (fun c5 => ?_) (fun c5 => ?_)
    · refine z_s I (s_iconst (pc' := 25) D_Cb_alike_0.2.2.2.1 rfl) ?_
      exact z_ret (w := some (vI (-1))) I (fun g => gk0 _ g (inR_c (x := (-1)) rfl)) ⟨_, rfl⟩ D_Cb_alike_0.2.2.2.2 rfl
    · refine z_s I (s_aload_n (pc' := 13) 0 rfl D_Cb_alike_0.1.2.2.2 rfl rfl) ?_
      refine z_getR (pc' := 16) (eI := o + 1) I g_Cb_12 ao rfl (by omega) D_Cb_alike_0.2.1.1 rfl ?_
      have k6 : ok τ (4, 1) (o + 1) := r_Cb_now hw ao (by omega)
      refine z_s I (s_iload_n (pc' := 17) 1 rfl D_Cb_alike_0.2.1.2.1 rfl rfl) ?_
      refine z_s I (s_iload_n (pc' := 18) 2 rfl D_Cb_alike_0.2.1.2.2 rfl rfl) ?_
      refine z_b1 (fun r9 q8 => ?_)
      refine z_callV (pc' := 21) I mv_Exam_likeness ml_Cb_206 (fun ad => [vI x1, vI x2]) ⟨Nat.le_of_ble_eq_true rfl, Nat.le_of_ble_eq_true rfl⟩ k6 (fun hh => c_Exam_likeness hw k6 ax1 ax2 hh q8) rfl rfl (Nat.le_of_ble_eq_true rfl) D_Cb_alike_0.2.2.1.1 rfl (fun f7 => ?_)
      refine z_s I (s_goto (tgt := 25) D_Cb_alike_0.2.2.1.2 rfl) ?_
      exact z_ret (w := some (vI r9)) I (fun g => gk0 _ g f7) ⟨_, rfl⟩ D_Cb_alike_0.2.2.2.2 rfl
  exact main _ hF (by rw [hG0])
set_option maxHeartbeats 4000000 in
set_option maxRecDepth 20000 in
theorem c_Cb_isSupposition {l : Launch} {τ : TP} {x0 : Int} {h : HP} {r : Int} (hw : wf τ) (ax0 : inR x0) (hh : hr τ h) (hF : m_Cb_isSupposition x0 h = some r) : Ctr l y_Cb_isSupposition k_Cb_isSupposition 1 (Option.some FieldType.boolean) 0 0 τ (fun ad => [vI x0]) h (some (vI r)) h (b01 r) := by
  refine ctr_of (by decide) hw hh (fun ad => Nat.le_of_ble_eq_true rfl) (fun ad K Y I hK => ?_)
  obtain ⟨G0, hG0⟩ : ∃ G : Int → Prop, G = fun x => x = r := ⟨_, rfl⟩
  have gk0 : ∀ (x : Int), G0 x → b01 x → K (some (vI x)) h := fun x g q => by
    rw [hG0] at g
    cases g
    exact hK q
  have main : Z Y (m_Cb_isSupposition x0 h) G0 h 0 [(0, vI x0)] [] := by
    unfold m_Cb_isSupposition
    refine z_s I (s_iload_n (pc' := 1) 0 rfl D_Cb_isSupposition_0.1.1.1 rfl rfl) ?_
    refine z_if_lt (tgt := 13) (pc' := 4) I ax0 D_Cb_isSupposition_0.1.1.2 rfl rfl (fun c1 => ?_) (fun c1 => ?_)
    · refine z_s I (s_iconst (pc' := 14) D_Cb_isSupposition_0.2.2.2.1 rfl) ?_
      exact z_ret (w := some (vI 0)) I (fun g => gk0 _ g bz0) ⟨_, bz0, rfl⟩ D_Cb_isSupposition_0.2.2.2.2 rfl
    · refine z_s I (s_iload_n (pc' := 5) 0 rfl D_Cb_isSupposition_0.1.2.1 rfl rfl) ?_
      refine z_s I (s_iconst (pc' := 6) D_Cb_isSupposition_0.1.2.2 rfl) ?_
      refine z_icmp_ge (tgt := 13) (pc' := 9) I ax0 (inR_c (x := 4) rfl) D_Cb_isSupposition_0.2.1.1 rfl rfl (fun c2 => ?_) (fun c2 => ?_)
      · refine z_s I (s_iconst (pc' := 14) D_Cb_isSupposition_0.2.2.2.1 rfl) ?_
        exact z_ret (w := some (vI 0)) I (fun g => gk0 _ g bz0) ⟨_, bz0, rfl⟩ D_Cb_isSupposition_0.2.2.2.2 rfl
      · refine z_s I (s_iconst (pc' := 10) D_Cb_isSupposition_0.2.1.2 rfl) ?_
        refine z_s I (s_goto (tgt := 14) D_Cb_isSupposition_0.2.2.1 rfl) ?_
        exact z_ret (w := some (vI 1)) I (fun g => gk0 _ g bz1) ⟨_, bz1, rfl⟩ D_Cb_isSupposition_0.2.2.2.2 rfl
  exact main _ hF (by rw [hG0])
set_option maxHeartbeats 4000000 in
set_option maxRecDepth 20000 in
theorem c_Cb_isPart {l : Launch} {τ : TP} {x0 : Int} {h : HP} {r : Int} (hw : wf τ) (ax0 : inR x0) (hh : hr τ h) (hF : m_Cb_isPart x0 h = some r) : Ctr l y_Cb_isPart k_Cb_isPart 1 (Option.some FieldType.boolean) 0 0 τ (fun ad => [vI x0]) h (some (vI r)) h (b01 r) := by
  refine ctr_of (by decide) hw hh (fun ad => Nat.le_of_ble_eq_true rfl) (fun ad K Y I hK => ?_)
  obtain ⟨G0, hG0⟩ : ∃ G : Int → Prop, G = fun x => x = r := ⟨_, rfl⟩
  have gk0 : ∀ (x : Int), G0 x → b01 x → K (some (vI x)) h := fun x g q => by
    rw [hG0] at g
    cases g
    exact hK q
  have main : Z Y (m_Cb_isPart x0 h) G0 h 0 [(0, vI x0)] [] := by
    unfold m_Cb_isPart
    refine z_s I (s_iload_n (pc' := 1) 0 rfl D_Cb_isPart_0.1.1.1 rfl rfl) ?_
    refine z_if_eq (tgt := 9) (pc' := 4) I ax0 D_Cb_isPart_0.1.1.2 rfl rfl (fun c1 => ?_) (fun c1 => ?_)
    · refine z_s I (s_iconst (pc' := 10) D_Cb_isPart_0.2.1.2 rfl) ?_
      refine z_s I (s_goto (tgt := 14) D_Cb_isPart_0.2.2.1 rfl) ?_
      exact z_ret (w := some (vI 1)) I (fun g => gk0 _ g bz1) ⟨_, bz1, rfl⟩ D_Cb_isPart_0.2.2.2.2 rfl
    · refine z_s I (s_iload_n (pc' := 5) 0 rfl D_Cb_isPart_0.1.2.1 rfl rfl) ?_
      refine z_s I (s_iconst (pc' := 6) D_Cb_isPart_0.1.2.2 rfl) ?_
      refine z_icmp_ne (tgt := 13) (pc' := 9) I ax0 (b01.R bz1) D_Cb_isPart_0.2.1.1 rfl rfl (fun c2 => ?_) (fun c2 => ?_)
      · refine z_s I (s_iconst (pc' := 14) D_Cb_isPart_0.2.2.2.1 rfl) ?_
        exact z_ret (w := some (vI 0)) I (fun g => gk0 _ g bz0) ⟨_, bz0, rfl⟩ D_Cb_isPart_0.2.2.2.2 rfl
      · refine z_s I (s_iconst (pc' := 10) D_Cb_isPart_0.2.1.2 rfl) ?_
        refine z_s I (s_goto (tgt := 14) D_Cb_isPart_0.2.2.1 rfl) ?_
        exact z_ret (w := some (vI 1)) I (fun g => gk0 _ g bz1) ⟨_, bz1, rfl⟩ D_Cb_isPart_0.2.2.2.2 rfl
  exact main _ hF (by rw [hG0])
set_option maxHeartbeats 4000000 in
set_option maxRecDepth 20000 in
theorem c_Exam_bothGave {l : Launch} {τ : TP} {o : Int} {x1 : Int} {x2 : Int} {x3 : Int} {h : HP} {r : Int} (hw : wf τ) (ao : ok τ (4, 1) o) (ax1 : inR x1) (ax2 : inR x2) (ax3 : inR x3) (hh : hr τ h) (hF : m_Exam_bothGave o x1 x2 x3 h = some r) : Ctr l y_Exam_bothGave k_Exam_bothGave 4 (Option.some FieldType.boolean) 0 0 τ (fun ad => [vR ad o, vI x1, vI x2, vI x3]) h (some (vI r)) h (b01 r) := by
  refine ctr_of (by decide) hw hh (fun ad => Nat.le_of_ble_eq_true rfl) (fun ad K Y I hK => ?_)
  obtain ⟨G0, hG0⟩ : ∃ G : Int → Prop, G = fun x => x = r := ⟨_, rfl⟩
  have gk0 : ∀ (x : Int), G0 x → b01 x → K (some (vI x)) h := fun x g q => by
    rw [hG0] at g
    cases g
    exact hK q
  have main : Z Y (m_Exam_bothGave o x1 x2 x3 h) G0 h 0 [(0, vR ad o), (1, vI x1), (2, vI x2), (3, vI x3)] [] := by
    unfold m_Exam_bothGave
    refine z_s I (s_aload_n (pc' := 1) 0 rfl D_Exam_bothGave_0.1.1.1.1 rfl rfl) ?_
    refine z_getR (pc' := 4) (eI := o + 12) I g_Exam_36 ao rfl (by omega) D_Exam_bothGave_0.1.1.1.2 rfl ?_
    have k1 : ok τ (3, 1) (o + 12) := r_Exam_given hw ao (by omega)
    refine z_s I (s_iload_n (pc' := 5) 2 rfl D_Exam_bothGave_0.1.1.2.1 rfl rfl) ?_
    refine z_aald (pc' := 6) (eI := o + x2 + 13) I 8 1 1 k1 ax2 rfl rfl rfl (by omega) D_Exam_bothGave_0.1.1.2.2 rfl (fun c2 => ?_)
    have k3 : ok τ (0, 8) (o + x2 + 13) := e_1 hw k1 c2 (by omega)
    refine z_s I (s_iload_n (pc' := 7) 1 rfl D_Exam_bothGave_0.1.2.1.1 rfl rfl) ?_
    refine z_iald (pc' := 8) (nI := 8) I k3 ax1 rfl D_Exam_bothGave_0.1.2.1.2 rfl (fun c4 f5 => ?_)
    refine z_if_lt (tgt := 26) (pc' := 11) I f5 D_Exam_bothGave_0.1.2.2.1 rfl rfl (fun c6 => ?_) (fun c6 => ?_)
    · refine z_s I (s_iconst (pc' := 27) D_Exam_bothGave_1.1 rfl) ?_
      exact z_ret (w := some (vI 0)) I (fun g => gk0 _ g bz0) ⟨_, bz0, rfl⟩ D_Exam_bothGave_1.2 rfl
    · refine z_s I (s_aload_n (pc' := 12) 0 rfl D_Exam_bothGave_0.1.2.2.2 rfl rfl) ?_
      refine z_getR (pc' := 15) (eI := o + 12) I g_Exam_36 ao rfl (by omega) D_Exam_bothGave_0.2.1.1.1 rfl ?_
      have k7 : ok τ (3, 1) (o + 12) := r_Exam_given hw ao (by omega)
      refine z_s I (s_iload_n (pc' := 16) 3 rfl D_Exam_bothGave_0.2.1.1.2 rfl rfl) ?_
      refine z_aald (pc' := 17) (eI := o + x3 + 13) I 8 1 1 k7 ax3 rfl rfl rfl (by omega) D_Exam_bothGave_0.2.1.2.1 rfl (fun c8 => ?_)
      have k9 : ok τ (0, 8) (o + x3 + 13) := e_1 hw k7 c8 (by omega)
      refine z_s I (s_iload_n (pc' := 18) 1 rfl D_Exam_bothGave_0.2.1.2.2 rfl rfl) ?_
      refine z_iald (pc' := 19) (nI := 8) I k9 ax1 rfl D_Exam_bothGave_0.2.2.1.1 rfl (fun c10 f11 => ?_)
      refine z_if_lt (tgt := 26) (pc' := 22) I f11 D_Exam_bothGave_0.2.2.1.2 rfl rfl (fun c12 => ?_) (fun c12 => ?_)
      · refine z_s I (s_iconst (pc' := 27) D_Exam_bothGave_1.1 rfl) ?_
        exact z_ret (w := some (vI 0)) I (fun g => gk0 _ g bz0) ⟨_, bz0, rfl⟩ D_Exam_bothGave_1.2 rfl
      · refine z_s I (s_iconst (pc' := 23) D_Exam_bothGave_0.2.2.2.1 rfl) ?_
        refine z_s I (s_goto (tgt := 27) D_Exam_bothGave_0.2.2.2.2 rfl) ?_
        exact z_ret (w := some (vI 1)) I (fun g => gk0 _ g bz1) ⟨_, bz1, rfl⟩ D_Exam_bothGave_1.2 rfl
  exact main _ hF (by rw [hG0])
set_option maxHeartbeats 4000000 in
set_option maxRecDepth 20000 in
theorem c_Odds_put {l : Launch} {τ : TP} {o : Int} {l1 : Int} {l3 : Int} {l5 : Int} {h : HP} {h' : HP} (hw : wf τ) (ao : ok τ (4, 3) o) (al1 : inL l1) (al3 : inL l3) (al5 : inL l5) (hh : hr τ h) (hF : m_Odds_put o l1 l3 l5 h = some h') : Ctr l y_Odds_put k_Odds_put 7 (Option.none : Option FieldType) 0 0 τ (fun ad => [vR ad o, vL l1, vL l3, vL l5]) h none h' (True) := by
  refine ctr_of (by decide) hw hh (fun ad => Nat.le_of_ble_eq_true rfl) (fun ad K Y I hK => ?_)
  obtain ⟨G0, hG0⟩ : ∃ G : HP → Prop, G = fun x => x = h' := ⟨_, rfl⟩
  have gk0 : ∀ (x : HP), G0 x → K none x := fun x g => by
    rw [hG0] at g
    cases g
    exact hK trivial
  have main : Z Y (m_Odds_put o l1 l3 l5 h) G0 h 0 [(0, vR ad o), (1, vL l1), (3, vL l3), (5, vL l5)] [] := by
    unfold m_Odds_put
    refine z_s I (s_aload_n (pc' := 1) 0 rfl D_Odds_put_0.1.1.1 rfl rfl) ?_
    refine z_s I (s_lload_n (pc' := 2) 1 rfl D_Odds_put_0.1.1.2 rfl rfl) ?_
    refine z_putL (pc' := 5) (jI := 6) I p_Odds_33 ao rfl rfl al1 D_Odds_put_0.1.2.1 rfl ?_
    refine z_bH (fun h1 e2 => ?_)
    refine z_s I (s_aload_n (pc' := 6) 0 rfl D_Odds_put_0.1.2.2.1 rfl rfl) ?_
    refine z_s I (s_lload_n (pc' := 7) 2 rfl D_Odds_put_0.1.2.2.2 rfl rfl) ?_
    refine z_putL (pc' := 10) (jI := 7) I p_Odds_36 ao rfl rfl al3 D_Odds_put_0.2.1.1 rfl ?_
    refine z_bH (fun h3 e4 => ?_)
    refine z_s I (s_aload_n (pc' := 11) 0 rfl D_Odds_put_0.2.1.2 rfl rfl) ?_
    refine z_s I (s_lload (pc' := 13) 3 rfl D_Odds_put_0.2.2.1 rfl) ?_
    refine z_putL (pc' := 16) (jI := 8) I p_Odds_39 ao rfl rfl al5 D_Odds_put_0.2.2.2.1 rfl ?_
    refine z_bH (fun h5 e6 => ?_)
    exact z_ret (w := none) I (fun g => gk0 _ g) rfl D_Odds_put_0.2.2.2.2 rfl
  exact main _ hF (by rw [hG0])
set_option maxHeartbeats 4000000 in
set_option maxRecDepth 20000 in
theorem c_Odds_weigh {l : Launch} {τ : TP} {o : Int} {r1 : Int} {x2 : Int} {x3 : Int} {x4 : Int} {x5 : Int} {h : HP} {h' : HP} (hw : wf τ) (ao : ok τ (4, 3) o) (ar1 : ok τ (4, 1) r1) (ax2 : inR x2) (ax3 : inR x3) (ax4 : inR x4) (ax5 : inR x5) (hh : hr τ h) (hF : m_Odds_weigh o r1 x2 x3 x4 x5 h = some h') : Ctr l y_Odds_weigh k_Odds_weigh 14 (Option.none : Option FieldType) 1 26 τ (fun ad => [vR ad o, vR ad r1, vI x2, vI x3, vI x4, vI x5]) h none h' (True) := by
  refine ctr_of (by decide) hw hh (fun ad => Nat.le_of_ble_eq_true rfl) (fun ad K Y I hK => ?_)
  obtain ⟨G0, hG0⟩ : ∃ G : HP → Prop, G = fun x => x = h' := ⟨_, rfl⟩
  have gk0 : ∀ (x : HP), G0 x → K none x := fun x g => by
    rw [hG0] at g
    cases g
    exact hK trivial
  have J197 : ∀ (s0 : Int) (as0 : ok τ (4, 3) s0) (s1 : Int) (as1 : inL s1) (h : HP), Z Y (m_Odds_weigh_J197 s0 s1 h) G0 h 197 [] [vL s1, vR ad s0] := by
    intro s0 as0 s1 as1 h
    unfold m_Odds_weigh_J197
    refine z_s I (s_lconst (pc' := 198) (x := 0) D_Odds_weigh_6.2.2.1.1 rfl rfl) ?_
    refine z_s I (s_lconst (pc' := 199) (x := 1) D_Odds_weigh_6.2.2.1.2 rfl rfl) ?_
    refine z_b1 (fun h3 q2 => ?_)
    refine z_callV (pc' := 202) I mv_Odds_put ml_Odds_104 (fun ad => [vL s1, vL 0, vL 1]) ⟨Nat.le_of_ble_eq_true rfl, Nat.le_of_ble_eq_true rfl⟩ as0 (fun hh => c_Odds_put hw as0 as1 (inL_c (x := 0) rfl) (inL_c (x := 1) rfl) hh q2) rfl rfl (Nat.le_of_ble_eq_true rfl) D_Odds_weigh_6.2.2.2.1 rfl (fun f1 => ?_)
    refine z_s I (s_goto (tgt := 246) D_Odds_weigh_6.2.2.2.2 rfl) ?_
    exact z_ret (w := none) I (fun g => gk0 _ g) rfl D_Odds_weigh_8.2.2.2 rfl
  have J196 : ∀ (s0 : Int) (as0 : ok τ (4, 3) s0) (h : HP), Z Y (m_Odds_weigh_J196 s0 h) G0 h 196 [] [vR ad s0] := by
    intro s0 as0 h
    unfold m_Odds_weigh_J196
    refine z_s I (s_lconst (pc' := 197) (x := 0) D_Odds_weigh_6.2.1.2.2 rfl rfl) ?_
    exact J197 _ as0 _ (inL_c (x := 0) rfl) _
  have J181 : ∀ (x8 : Int) (ax8 : b01 x8) (x9 : Int) (ax9 : b01 x9) (h : HP), Z Y (m_Odds_weigh_J181 o x8 x9 h) G0 h 181 [(0, vR ad o), (8, vI x8), (9, vI x9)] [] := by
    intro x8 ax8 x9 ax9 h
    unfold m_Odds_weigh_J181
    refine z_s I (s_aload_n (pc' := 182) 0 rfl D_Odds_weigh_6.1.2.1.1 rfl rfl) ?_
    refine z_s I (s_iload (pc' := 184) 1 rfl D_Odds_weigh_6.1.2.1.2 rfl) ?_
    refine z_if_eq (tgt := 196) (pc' := 187) I (b01.R ax8) D_Odds_weigh_6.1.2.2.1 rfl rfl (fun c4 => ?_) (fun c4 => ?_)
    · refine z_s I (s_lv (lv' := []) [] rfl) ?_
      exact J196 _ ao _
    · refine z_s I (s_iload (pc' := 189) 2 rfl D_Odds_weigh_6.1.2.2.2 rfl) ?_
      refine z_if_eq (tgt := 196) (pc' := 192) I (b01.R ax9) D_Odds_weigh_6.2.1.1.1 rfl rfl (fun c5 => ?_) (fun c5 => ?_)
      · refine z_s I (s_lv (lv' := []) [] rfl) ?_
        exact J196 _ ao _
      · refine z_s I (s_lconst (pc' := 193) (x := 1) D_Odds_weigh_6.2.1.1.2 rfl rfl) ?_
        refine z_s I (s_goto (tgt := 197) D_Odds_weigh_6.2.1.2.1 rfl) ?_
        refine z_s I (s_lv (lv' := []) [] rfl) ?_
        exact J197 _ ao _ (inL_c (x := 1) rfl) _
  have J160 : ∀ (s0 : Int) (as0 : ok τ (4, 3) s0) (s1 : Int) (as1 : inL s1) (s2 : Int) (as2 : inL s2) (h : HP), Z Y (m_Odds_weigh_J160 o s0 s1 s2 h) G0 h 160 [(0, vR ad o)] [vL s2, vL s1, vR ad s0] := by
    intro s0 as0 s1 as1 s2 as2 h
    unfold m_Odds_weigh_J160
    refine z_s I (s_aload_n (pc' := 161) 0 rfl D_Odds_weigh_5.2.1.2.2 rfl rfl) ?_
    refine z_getI (pc' := 164) (jI := 1) I g_Odds_15 ao rfl rfl D_Odds_weigh_5.2.2.1.1 rfl (fun f6 => ?_)
    refine z_s I (s_i2l (pc' := 165) f6 D_Odds_weigh_5.2.2.1.2 rfl) ?_
    refine z_b1 (fun h9 q8 => ?_)
    refine z_callV (pc' := 168) I mv_Odds_put ml_Odds_104 (fun ad => [vL s1, vL s2, vL (h o 1)]) ⟨Nat.le_of_ble_eq_true rfl, Nat.le_of_ble_eq_true rfl⟩ as0 (fun hh => c_Odds_put hw as0 as1 as2 (f6).L hh q8) rfl rfl (Nat.le_of_ble_eq_true rfl) D_Odds_weigh_5.2.2.2.1 rfl (fun f7 => ?_)
    refine z_s I (s_goto (tgt := 246) D_Odds_weigh_5.2.2.2.2 rfl) ?_
    exact z_ret (w := none) I (fun g => gk0 _ g) rfl D_Odds_weigh_8.2.2.2 rfl
  have J143 : ∀ (x7 : Int) (ax7 : inR x7) (x8 : Int) (ax8 : b01 x8) (s0 : Int) (as0 : ok τ (4, 3) s0) (s1 : Int) (as1 : inL s1) (h : HP), Z Y (m_Odds_weigh_J143 o x7 x8 s0 s1 h) G0 h 143 [(0, vR ad o), (7, vI x7), (8, vI x8)] [vL s1, vR ad s0] := by
    intro x7 ax7 x8 ax8 s0 as0 s1 as1 h
    unfold m_Odds_weigh_J143
    refine z_s I (s_iload (pc' := 145) 2 rfl D_Odds_weigh_5.1.1.2.1 rfl) ?_
    refine z_if_eq (tgt := 152) (pc' := 148) I (b01.R ax8) D_Odds_weigh_5.1.1.2.2 rfl rfl (fun c10 => ?_) (fun c10 => ?_)
    · refine z_s I (s_aload_n (pc' := 153) 0 rfl D_Odds_weigh_5.1.2.2.1 rfl rfl) ?_
      refine z_getR (pc' := 156) (eI := o + 1) I g_Odds_9 ao rfl (by omega) D_Odds_weigh_5.1.2.2.2 rfl ?_
      have k11 : ok τ (0, 4) (o + 1) := r_Odds_shares hw ao (by omega)
      refine z_s I (s_iload (pc' := 158) 1 rfl D_Odds_weigh_5.2.1.1.1 rfl) ?_
      refine z_iald (pc' := 159) (nI := 4) I k11 ax7 rfl D_Odds_weigh_5.2.1.1.2 rfl (fun c12 f13 => ?_)
      refine z_s I (s_i2l (pc' := 160) f13 D_Odds_weigh_5.2.1.2.1 rfl) ?_
      refine z_s I (s_lv (lv' := [(0, vR ad o)]) [0] rfl) ?_
      exact J160 _ as0 _ as1 _ (f13).L _
    · refine z_s I (s_lconst (pc' := 149) (x := 0) D_Odds_weigh_5.1.2.1.1 rfl rfl) ?_
      refine z_s I (s_goto (tgt := 160) D_Odds_weigh_5.1.2.1.2 rfl) ?_
      refine z_s I (s_lv (lv' := [(0, vR ad o)]) [0] rfl) ?_
      exact J160 _ as0 _ as1 _ (inL_c (x := 0) rfl) _
  have J51 : ∀ (x6 : Int) (ax6 : inR x6) (x7 : Int) (ax7 : inR x7) (x8 : Int) (ax8 : b01 x8) (s0 : Int) (as0 : b01 s0) (h : HP), Z Y (m_Odds_weigh_J51 o x5 x6 x7 x8 s0 h) G0 h 51 [(0, vR ad o), (5, vI x5), (6, vI x6), (7, vI x7), (8, vI x8)] [vI s0] := by
    intro x6 ax6 x7 ax7 x8 ax8 s0 as0 h
    unfold m_Odds_weigh_J51
    refine z_s I (s_istore (pc' := 53) (lv' := [(9, vI s0), (0, vR ad o), (5, vI x5), (6, vI x6), (7, vI x7), (8, vI x8)]) D_Odds_weigh_1.2.2.2.1 (by decide) rfl rfl) ?_
    refine z_s I (s_aload_n (pc' := 54) 1 rfl D_Odds_weigh_1.2.2.2.2 rfl rfl) ?_
    refine z_getI (pc' := 57) (jI := 1) I g_Odds_15 ao rfl rfl D_Odds_weigh_2.1.1.1.1 rfl (fun f14 => ?_)
    refine z_s I (s_aload_n (pc' := 58) 1 rfl D_Odds_weigh_2.1.1.1.2 rfl rfl) ?_
    refine z_getR (pc' := 61) (eI := o + 1) I g_Odds_9 ao rfl (by omega) D_Odds_weigh_2.1.1.2.1 rfl ?_
    have k15 : ok τ (0, 4) (o + 1) := r_Odds_shares hw ao (by omega)
    refine z_s I (s_iload (pc' := 63) 3 rfl D_Odds_weigh_2.1.1.2.2 rfl) ?_
    refine z_iald (pc' := 64) (nI := 4) I k15 ax6 rfl D_Odds_weigh_2.1.2.1.1 rfl (fun c16 f17 => ?_)
    refine z_s I (s_isub (pc' := 65) D_Odds_weigh_2.1.2.1.2 rfl) ?_
    refine z_s I (s_i2l (pc' := 66) (inR_w32 _) D_Odds_weigh_2.1.2.2.1 rfl) ?_
    refine z_bL ((inR_w32 _)).L (fun v18 e19 f20 => ?_)
    refine z_s I (s_lstore (pc' := 68) (lv' := [(10, vL v18), (9, vI s0), (0, vR ad o), (5, vI x5), (6, vI x6), (7, vI x7), (8, vI x8)]) D_Odds_weigh_2.1.2.2.2 (by decide) rfl rfl) ?_
    refine z_s I (s_aload_n (pc' := 69) 2 rfl D_Odds_weigh_2.2.1.1.1 rfl rfl) ?_
    refine z_getR (pc' := 72) (eI := o + 1) I g_Odds_9 ao rfl (by omega) D_Odds_weigh_2.2.1.1.2 rfl ?_
    have k21 : ok τ (0, 4) (o + 1) := r_Odds_shares hw ao (by omega)
    refine z_s I (s_iload (pc' := 74) 4 rfl D_Odds_weigh_2.2.1.2.1 rfl) ?_
    refine z_iald (pc' := 75) (nI := 4) I k21 ax6 rfl D_Odds_weigh_2.2.1.2.2 rfl (fun c22 f23 => ?_)
    refine z_s I (s_i2l (pc' := 76) f23 D_Odds_weigh_2.2.2.1.1 rfl) ?_
    refine z_s I (s_aload_n (pc' := 77) 2 rfl D_Odds_weigh_2.2.2.1.2 rfl rfl) ?_
    refine z_getR (pc' := 80) (eI := o + 1) I g_Odds_9 ao rfl (by omega) D_Odds_weigh_2.2.2.2.1 rfl ?_
    have k24 : ok τ (0, 4) (o + 1) := r_Odds_shares hw ao (by omega)
    refine z_s I (s_iload (pc' := 82) 4 rfl D_Odds_weigh_2.2.2.2.2 rfl) ?_
    refine z_iald (pc' := 83) (nI := 4) I k24 ax6 rfl D_Odds_weigh_3.1.1.1.1 rfl (fun c25 f26 => ?_)
    refine z_s I (s_i2l (pc' := 84) f26 D_Odds_weigh_3.1.1.1.2 rfl) ?_
    refine z_s I (s_lmul (pc' := 85) D_Odds_weigh_3.1.1.2.1 rfl) ?_
    refine z_bL (inL_w64 _) (fun v27 e28 f29 => ?_)
    refine z_s I (s_lstore (pc' := 87) (lv' := [(12, vL v27), (10, vL v18), (9, vI s0), (0, vR ad o), (5, vI x5), (6, vI x6), (7, vI x7), (8, vI x8)]) D_Odds_weigh_3.1.1.2.2 (by decide) rfl rfl) ?_
    refine z_s I (s_iload (pc' := 89) 4 rfl D_Odds_weigh_3.1.2.1.1 rfl) ?_
    refine z_if_ne (tgt := 119) (pc' := 92) I ax5 D_Odds_weigh_3.1.2.1.2 rfl rfl (fun c30 => ?_) (fun c30 => ?_)
    · refine z_s I (s_iload (pc' := 121) 4 rfl D_Odds_weigh_4.1.2.1.2 rfl) ?_
      refine z_s I (s_iconst (pc' := 122) D_Odds_weigh_4.1.2.2.1 rfl) ?_
      refine z_icmp_ne (tgt := 171) (pc' := 125) I ax5 (inR_c (x := 2) rfl) D_Odds_weigh_4.1.2.2.2 rfl rfl (fun c31 => ?_) (fun c31 => ?_)
      · refine z_s I (s_iload (pc' := 173) 7 rfl D_Odds_weigh_6.1.1.1.1 rfl) ?_
        refine z_if_ne (tgt := 181) (pc' := 176) I (b01.R ax8) D_Odds_weigh_6.1.1.1.2 rfl rfl (fun c32 => ?_) (fun c32 => ?_)
        · refine z_s I (s_lv (lv' := [(0, vR ad o), (8, vI x8), (9, vI s0)]) [3, 7, 2] rfl) ?_
          exact J181 _ ax8 _ as0 _
        · refine z_s I (s_iload (pc' := 178) 2 rfl D_Odds_weigh_6.1.1.2.1 rfl) ?_
          refine z_if_eq (tgt := 205) (pc' := 181) I (b01.R as0) D_Odds_weigh_6.1.1.2.2 rfl rfl (fun c33 => ?_) (fun c33 => ?_)
          · refine z_s I (s_iload (pc' := 207) 4 rfl D_Odds_weigh_7.1.1.1.1 rfl) ?_
            refine z_s I (s_iconst (pc' := 208) D_Odds_weigh_7.1.1.1.2 rfl) ?_
            refine z_icmp_ne (tgt := 231) (pc' := 211) I ax5 (b01.R bz1) D_Odds_weigh_7.1.1.2.1 rfl rfl (fun c34 => ?_) (fun c34 => ?_)
            · refine z_s I (s_aload_n (pc' := 232) 3 rfl D_Odds_weigh_7.2.2.2.1 rfl rfl) ?_
              refine z_s I (s_lconst (pc' := 233) (x := 0) D_Odds_weigh_7.2.2.2.2 rfl rfl) ?_
              refine z_s I (s_aload_n (pc' := 234) 3 rfl D_Odds_weigh_8.1.1.1 rfl rfl) ?_
              refine z_getR (pc' := 237) (eI := o + 1) I g_Odds_9 ao rfl (by omega) D_Odds_weigh_8.1.1.2 rfl ?_
              have k35 : ok τ (0, 4) (o + 1) := r_Odds_shares hw ao (by omega)
              refine z_s I (s_iload (pc' := 239) 6 rfl D_Odds_weigh_8.1.2.1 rfl) ?_
              refine z_iald (pc' := 240) (nI := 4) I k35 ax7 rfl D_Odds_weigh_8.1.2.2 rfl (fun c36 f37 => ?_)
              refine z_s I (s_i2l (pc' := 241) f37 D_Odds_weigh_8.2.1.1 rfl) ?_
              refine z_s I (s_lload (pc' := 243) 1 rfl D_Odds_weigh_8.2.1.2 rfl) ?_
              refine z_b1 (fun h40 q39 => ?_)
              refine z_callV (pc' := 246) I mv_Odds_put ml_Odds_104 (fun ad => [vL 0, vL (h (o + 1) x7), vL v18]) ⟨Nat.le_of_ble_eq_true rfl, Nat.le_of_ble_eq_true rfl⟩ ao (fun hh => c_Odds_put hw ao (inL_c (x := 0) rfl) (f37).L f20 hh q39) rfl rfl (Nat.le_of_ble_eq_true rfl) D_Odds_weigh_8.2.2.1 rfl (fun f38 => ?_)
              exact z_ret (w := none) I (fun g => gk0 _ g) rfl D_Odds_weigh_8.2.2.2 rfl
            · refine z_s I (s_aload_n (pc' := 212) 3 rfl D_Odds_weigh_7.1.1.2.2 rfl rfl) ?_
              refine z_s I (s_lconst (pc' := 213) (x := 0) D_Odds_weigh_7.1.2.1.1 rfl rfl) ?_
              refine z_s I (s_aload_n (pc' := 214) 3 rfl D_Odds_weigh_7.1.2.1.2 rfl rfl) ?_
              refine z_getL (pc' := 217) (jI := 2) I g_Odds_19 ao rfl rfl D_Odds_weigh_7.1.2.2.1 rfl (fun f41 => ?_)
              refine z_s I (s_lload (pc' := 219) 0 rfl D_Odds_weigh_7.1.2.2.2 rfl) ?_
              refine z_s I (s_lsub (pc' := 220) D_Odds_weigh_7.2.1.1.1 rfl) ?_
              refine z_s I (s_lload (pc' := 222) 1 rfl D_Odds_weigh_7.2.1.1.2 rfl) ?_
              refine z_s I (s_lload (pc' := 224) 1 rfl D_Odds_weigh_7.2.1.2.1 rfl) ?_
              refine z_s I (s_lmul (pc' := 225) D_Odds_weigh_7.2.1.2.2 rfl) ?_
              refine z_b1 (fun h44 q43 => ?_)
              refine z_callV (pc' := 228) I mv_Odds_put ml_Odds_104 (fun ad => [vL 0, vL (w64 ((h o 2) - v27)), vL (w64 (v18 * v18))]) ⟨Nat.le_of_ble_eq_true rfl, Nat.le_of_ble_eq_true rfl⟩ ao (fun hh => c_Odds_put hw ao (inL_c (x := 0) rfl) (inL_w64 _) (inL_w64 _) hh q43) rfl rfl (Nat.le_of_ble_eq_true rfl) D_Odds_weigh_7.2.2.1.1 rfl (fun f42 => ?_)
              refine z_s I (s_goto (tgt := 246) D_Odds_weigh_7.2.2.1.2 rfl) ?_
              exact z_ret (w := none) I (fun g => gk0 _ g) rfl D_Odds_weigh_8.2.2.2 rfl
          · refine z_s I (s_lv (lv' := [(0, vR ad o), (8, vI x8), (9, vI s0)]) [3, 7, 2] rfl) ?_
            exact J181 _ ax8 _ as0 _
      · refine z_s I (s_aload_n (pc' := 126) 3 rfl D_Odds_weigh_4.2.1.1.1 rfl rfl) ?_
        refine z_s I (s_iload (pc' := 128) 7 rfl D_Odds_weigh_4.2.1.1.2 rfl) ?_
        refine z_if_eq (tgt := 142) (pc' := 131) I (b01.R ax8) D_Odds_weigh_4.2.1.2.1 rfl rfl (fun c45 => ?_) (fun c45 => ?_)
        · refine z_s I (s_lconst (pc' := 143) (x := 0) D_Odds_weigh_5.1.1.1.2 rfl rfl) ?_
          refine z_s I (s_lv (lv' := [(0, vR ad o), (7, vI x7), (8, vI x8)]) [3, 6, 7] rfl) ?_
          exact J143 _ ax7 _ ax8 _ ao _ (inL_c (x := 0) rfl) _
        · refine z_s I (s_aload_n (pc' := 132) 3 rfl D_Odds_weigh_4.2.1.2.2 rfl rfl) ?_
          refine z_getR (pc' := 135) (eI := o + 1) I g_Odds_9 ao rfl (by omega) D_Odds_weigh_4.2.2.1.1 rfl ?_
          have k46 : ok τ (0, 4) (o + 1) := r_Odds_shares hw ao (by omega)
          refine z_s I (s_iload (pc' := 137) 5 rfl D_Odds_weigh_4.2.2.1.2 rfl) ?_
          refine z_iald (pc' := 138) (nI := 4) I k46 ax6 rfl D_Odds_weigh_4.2.2.2.1 rfl (fun c47 f48 => ?_)
          refine z_s I (s_i2l (pc' := 139) f48 D_Odds_weigh_4.2.2.2.2 rfl) ?_
          refine z_s I (s_goto (tgt := 143) D_Odds_weigh_5.1.1.1.1 rfl) ?_
          refine z_s I (s_lv (lv' := [(0, vR ad o), (7, vI x7), (8, vI x8)]) [3, 6, 7] rfl) ?_
          exact J143 _ ax7 _ ax8 _ ao _ (f48).L _
    · refine z_s I (s_aload_n (pc' := 93) 3 rfl D_Odds_weigh_3.1.2.2.1 rfl rfl) ?_
      refine z_s I (s_lload (pc' := 95) 0 rfl D_Odds_weigh_3.1.2.2.2 rfl) ?_
      refine z_s I (s_aload_n (pc' := 96) 3 rfl D_Odds_weigh_3.2.1.1.1 rfl rfl) ?_
      refine z_getL (pc' := 99) (jI := 2) I g_Odds_19 ao rfl rfl D_Odds_weigh_3.2.1.1.2 rfl (fun f49 => ?_)
      refine z_s I (s_lload (pc' := 101) 0 rfl D_Odds_weigh_3.2.1.2.1 rfl) ?_
      refine z_s I (s_lsub (pc' := 102) D_Odds_weigh_3.2.1.2.2 rfl) ?_
      refine z_s I (s_aload_n (pc' := 103) 3 rfl D_Odds_weigh_3.2.2.1.1 rfl rfl) ?_
      refine z_getI (pc' := 106) (jI := 1) I g_Odds_15 ao rfl rfl D_Odds_weigh_3.2.2.1.2 rfl (fun f50 => ?_)
      refine z_s I (s_i2l (pc' := 107) f50 D_Odds_weigh_3.2.2.2.1 rfl) ?_
      refine z_s I (s_aload_n (pc' := 108) 3 rfl D_Odds_weigh_3.2.2.2.2 rfl rfl) ?_
      refine z_getI (pc' := 111) (jI := 1) I g_Odds_15 ao rfl rfl D_Odds_weigh_4.1.1.1.1 rfl (fun f51 => ?_)
      refine z_s I (s_i2l (pc' := 112) f51 D_Odds_weigh_4.1.1.1.2 rfl) ?_
      refine z_s I (s_lmul (pc' := 113) D_Odds_weigh_4.1.1.2.1 rfl) ?_
      refine z_b1 (fun h54 q53 => ?_)
      refine z_callV (pc' := 116) I mv_Odds_put ml_Odds_104 (fun ad => [vL v27, vL (w64 ((h o 2) - v27)), vL (w64 ((h o 1) * (h o 1)))]) ⟨Nat.le_of_ble_eq_true rfl, Nat.le_of_ble_eq_true rfl⟩ ao (fun hh => c_Odds_put hw ao f29 (inL_w64 _) (inL_w64 _) hh q53) rfl rfl (Nat.le_of_ble_eq_true rfl) D_Odds_weigh_4.1.1.2.2 rfl (fun f52 => ?_)
      refine z_s I (s_goto (tgt := 246) D_Odds_weigh_4.1.2.1.1 rfl) ?_
      exact z_ret (w := none) I (fun g => gk0 _ g) rfl D_Odds_weigh_8.2.2.2 rfl
  have J30 : ∀ (x6 : Int) (ax6 : inR x6) (x7 : Int) (ax7 : inR x7) (s0 : Int) (as0 : b01 s0) (h : HP), Z Y (m_Odds_weigh_J30 o r1 x2 x4 x5 x6 x7 s0 h) G0 h 30 [(0, vR ad o), (1, vR ad r1), (2, vI x2), (4, vI x4), (5, vI x5), (6, vI x6), (7, vI x7)] [vI s0] := by
    intro x6 ax6 x7 ax7 s0 as0 h
    unfold m_Odds_weigh_J30
    refine z_s I (s_istore (pc' := 32) (lv' := [(8, vI s0), (0, vR ad o), (1, vR ad r1), (2, vI x2), (4, vI x4), (5, vI x5), (6, vI x6), (7, vI x7)]) D_Odds_weigh_1.1.1.2.1 (by decide) rfl rfl) ?_
    refine z_s I (s_aload_n (pc' := 33) 2 rfl D_Odds_weigh_1.1.1.2.2 rfl rfl) ?_
    refine z_getR (pc' := 36) (eI := r1 + 12) I g_Odds_98 ar1 rfl (by omega) D_Odds_weigh_1.1.2.1.1 rfl ?_
    have k55 : ok τ (3, 1) (r1 + 12) := r_Exam_given hw ar1 (by omega)
    refine z_s I (s_iload (pc' := 38) 4 rfl D_Odds_weigh_1.1.2.1.2 rfl) ?_
    refine z_aald (pc' := 39) (eI := r1 + x4 + 13) I 8 1 1 k55 ax4 rfl rfl rfl (by omega) D_Odds_weigh_1.1.2.2.1 rfl (fun c56 => ?_)
    have k57 : ok τ (0, 8) (r1 + x4 + 13) := e_1 hw k55 c56 (by omega)
    refine z_s I (s_iload_n (pc' := 40) 3 rfl D_Odds_weigh_1.1.2.2.2 rfl rfl) ?_
    refine z_iald (pc' := 41) (nI := 8) I k57 ax2 rfl D_Odds_weigh_1.2.1.1.1 rfl (fun c58 f59 => ?_)
    refine z_s I (s_iload (pc' := 43) 6 rfl D_Odds_weigh_1.2.1.1.2 rfl) ?_
    refine z_icmp_ne (tgt := 50) (pc' := 46) I f59 ax6 D_Odds_weigh_1.2.1.2.1 rfl rfl (fun c60 => ?_) (fun c60 => ?_)
    · refine z_s I (s_iconst (pc' := 51) D_Odds_weigh_1.2.2.1.2 rfl) ?_
      refine z_s I (s_lv (lv' := [(0, vR ad o), (5, vI x5), (6, vI x6), (7, vI x7), (8, vI s0)]) [1, 5, 6, 7, 0] rfl) ?_
      exact J51 _ ax6 _ ax7 _ as0 _ bz0 _
    · refine z_s I (s_iconst (pc' := 47) D_Odds_weigh_1.2.1.2.2 rfl) ?_
      refine z_s I (s_goto (tgt := 51) D_Odds_weigh_1.2.2.1.1 rfl) ?_
      refine z_s I (s_lv (lv' := [(0, vR ad o), (5, vI x5), (6, vI x6), (7, vI x7), (8, vI s0)]) [1, 5, 6, 7, 0] rfl) ?_
      exact J51 _ ax6 _ ax7 _ as0 _ bz1 _
  have main : Z Y (m_Odds_weigh o r1 x2 x3 x4 x5 h) G0 h 0 [(0, vR ad o), (1, vR ad r1), (2, vI x2), (3, vI x3), (4, vI x4), (5, vI x5)] [] := by
    unfold m_Odds_weigh
    refine z_s I (s_aload_n (pc' := 1) 1 rfl D_Odds_weigh_0.1.1.1.1 rfl rfl) ?_
    refine z_getR (pc' := 4) (eI := r1 + 1) I g_Odds_101 ar1 rfl (by omega) D_Odds_weigh_0.1.1.1.2 rfl ?_
    have k61 : ok τ (0, 8) (r1 + 1) := r_Exam_key hw ar1 (by omega)
    refine z_s I (s_iload_n (pc' := 5) 2 rfl D_Odds_weigh_0.1.1.2.1 rfl rfl) ?_
    refine z_iald (pc' := 6) (nI := 8) I k61 ax2 rfl D_Odds_weigh_0.1.1.2.2 rfl (fun c62 f63 => ?_)
    refine z_bI f63 (fun v64 e65 f66 => ?_)
    refine z_s I (s_istore (pc' := 8) (lv' := [(6, vI v64), (0, vR ad o), (1, vR ad r1), (2, vI x2), (3, vI x3), (4, vI x4), (5, vI x5)]) D_Odds_weigh_0.1.2.1.1 (by decide) rfl rfl) ?_
    refine z_s I (s_aload_n (pc' := 9) 2 rfl D_Odds_weigh_0.1.2.1.2 rfl rfl) ?_
    refine z_getR (pc' := 12) (eI := r1 + 12) I g_Odds_98 ar1 rfl (by omega) D_Odds_weigh_0.1.2.2.1 rfl ?_
    have k67 : ok τ (3, 1) (r1 + 12) := r_Exam_given hw ar1 (by omega)
    refine z_s I (s_iload_n (pc' := 13) 4 rfl D_Odds_weigh_0.1.2.2.2 rfl rfl) ?_
    refine z_aald (pc' := 14) (eI := r1 + x3 + 13) I 8 1 1 k67 ax3 rfl rfl rfl (by omega) D_Odds_weigh_0.2.1.1.1 rfl (fun c68 => ?_)
    have k69 : ok τ (0, 8) (r1 + x3 + 13) := e_1 hw k67 c68 (by omega)
    refine z_s I (s_iload_n (pc' := 15) 3 rfl D_Odds_weigh_0.2.1.1.2 rfl rfl) ?_
    refine z_iald (pc' := 16) (nI := 8) I k69 ax2 rfl D_Odds_weigh_0.2.1.2.1 rfl (fun c70 f71 => ?_)
    refine z_bI f71 (fun v72 e73 f74 => ?_)
    refine z_s I (s_istore (pc' := 18) (lv' := [(7, vI v72), (6, vI v64), (0, vR ad o), (1, vR ad r1), (2, vI x2), (3, vI x3), (4, vI x4), (5, vI x5)]) D_Odds_weigh_0.2.1.2.2 (by decide) rfl rfl) ?_
    refine z_s I (s_iload (pc' := 20) 0 rfl D_Odds_weigh_0.2.2.1.1 rfl) ?_
    refine z_s I (s_iload (pc' := 22) 1 rfl D_Odds_weigh_0.2.2.1.2 rfl) ?_
    refine z_icmp_ne (tgt := 29) (pc' := 25) I f74 f66 D_Odds_weigh_0.2.2.2.1 rfl rfl (fun c75 => ?_) (fun c75 => ?_)
    · refine z_s I (s_iconst (pc' := 30) D_Odds_weigh_1.1.1.1.2 rfl) ?_
      refine z_s I (s_lv (lv' := [(0, vR ad o), (1, vR ad r1), (2, vI x2), (4, vI x4), (5, vI x5), (6, vI v64), (7, vI v72)]) [2, 3, 4, 6, 7, 1, 0] rfl) ?_
      exact J30 _ f66 _ f74 _ bz0 _
    · refine z_s I (s_iconst (pc' := 26) D_Odds_weigh_0.2.2.2.2 rfl) ?_
      refine z_s I (s_goto (tgt := 30) D_Odds_weigh_1.1.1.1.1 rfl) ?_
      refine z_s I (s_lv (lv' := [(0, vR ad o), (1, vR ad r1), (2, vI x2), (4, vI x4), (5, vI x5), (6, vI v64), (7, vI v72)]) [2, 3, 4, 6, 7, 1, 0] rfl) ?_
      exact J30 _ f66 _ f74 _ bz1 _
  exact main _ hF (by rw [hG0])
set_option maxHeartbeats 4000000 in
set_option maxRecDepth 20000 in
theorem c_Odds_addItem {l : Launch} {τ : TP} {o : Int} {x1 : Int} {x2 : Int} {x3 : Int} {h : HP} {h' : HP} (hw : wf τ) (ao : ok τ (4, 3) o) (ax1 : inR x1) (ax2 : inR x2) (ax3 : inR x3) (hh : hr τ h) (hF : m_Odds_addItem o x1 x2 x3 h = some h') : Ctr l y_Odds_addItem k_Odds_addItem 9 (Option.none : Option FieldType) 0 0 τ (fun ad => [vR ad o, vI x1, vI x2, vI x3]) h none h' (True) := by
  refine ctr_of (by decide) hw hh (fun ad => Nat.le_of_ble_eq_true rfl) (fun ad K Y I hK => ?_)
  obtain ⟨G0, hG0⟩ : ∃ G : HP → Prop, G = fun x => x = h' := ⟨_, rfl⟩
  have gk0 : ∀ (x : HP), G0 x → K none x := fun x g => by
    rw [hG0] at g
    cases g
    exact hK trivial
  have J101 : ∀ (h : HP), Z Y (m_Odds_addItem_J101 o h) G0 h 101 [(0, vR ad o)] [] := by
    intro h
    unfold m_Odds_addItem_J101
    refine z_s I (s_aload_n (pc' := 102) 0 rfl D_Odds_addItem_3.2.1.1.2 rfl rfl) ?_
    refine z_s I (s_dup (pc' := 103) rfl D_Odds_addItem_3.2.1.2.1 rfl) ?_
    refine z_getL (pc' := 106) (jI := 4) I g_Odds_27 ao rfl rfl D_Odds_addItem_3.2.1.2.2 rfl (fun f1 => ?_)
    refine z_s I (s_aload_n (pc' := 107) 0 rfl D_Odds_addItem_3.2.2.1.1 rfl rfl) ?_
    refine z_getL (pc' := 110) (jI := 8) I g_Odds_39 ao rfl rfl D_Odds_addItem_3.2.2.1.2 rfl (fun f2 => ?_)
    refine z_s I (s_lmul (pc' := 111) D_Odds_addItem_3.2.2.2.1 rfl) ?_
    refine z_putL (pc' := 114) (jI := 4) I p_Odds_27 ao rfl rfl (inL_w64 _) D_Odds_addItem_3.2.2.2.2 rfl ?_
    refine z_bH (fun h3 e4 => ?_)
    exact z_ret (w := none) I (fun g => gk0 _ g) rfl D_Odds_addItem_4 rfl
  have L19 : ∀ (l4 : Int) (al4 : inL l4) (s : Int × HP), (inR (s.1)) → Z Y (m_Odds_addItem_L19 o x2 x3 l4 s) G0 (s.2) 19 [(0, vR ad o), (2, vI x2), (3, vI x3), (4, vL l4), (6, vI (s.1))] [] := by
    intro l4 al4 s hs
    refine z_loop (G := G0) (hO := fun s : Int × HP => s.2) (lO := fun s : Int × HP => [(0, vR ad o), (2, vI x2), (3, vI x3), (4, vL l4), (6, vI (s.1))]) (Φ := fun s : Int × HP => inR (s.1)) (fun G1 hin1_1 hout1 s hs => ?_) FUEL s hs
    obtain ⟨x6, h⟩ := s
    have ax6 := hs
    have gk1 := fun (x : HP) (g : G1 (.inr (x))) => gk0 x (hout1 _ g)
    have J86 : ∀ (x6 : Int) (ax6 : inR x6) (l7 : Int) (al7 : inL l7) (h : HP), Z Y (m_Odds_addItem_J86 o x2 x3 l4 x6 l7 h) G1 h 86 [(0, vR ad o), (2, vI x2), (3, vI x3), (4, vL l4), (6, vI x6), (7, vL l7)] [] := by
      intro x6 ax6 l7 al7 h
      unfold m_Odds_addItem_J86
      refine z_s I (s_aload_n (pc' := 87) 0 rfl D_Odds_addItem_3.1.1.2.1 rfl rfl) ?_
      refine z_getR (pc' := 90) (eI := o + 2) I g_Odds_23 ao rfl (by omega) D_Odds_addItem_3.1.1.2.2 rfl ?_
      have k5 : ok τ (1, 33) (o + 2) := r_Odds_ways hw ao (by omega)
      refine z_s I (s_iload (pc' := 92) 4 rfl D_Odds_addItem_3.1.2.1.1 rfl) ?_
      refine z_s I (s_lload (pc' := 94) 5 rfl D_Odds_addItem_3.1.2.1.2 rfl) ?_
      refine z_last (pc' := 95) (nI := 33) I k5 ax6 al7 rfl D_Odds_addItem_3.1.2.2.1 rfl (fun c6 => ?_)
      refine z_bH (fun h7 e8 => ?_)
      refine z_s I (s_iinc (pc' := 98) (lv' := [(6, vI (w32 (x6 + (-1)))), (0, vR ad o), (2, vI x2), (3, vI x3), (4, vL l4), (7, vL l7)]) (n := 4) rfl D_Odds_addItem_3.1.2.2.2 (by decide) rfl rfl) ?_
      refine z_s I (s_goto (tgt := 19) D_Odds_addItem_3.2.1.1.1 rfl) ?_
      refine z_s I (s_lv (lv' := [(0, vR ad o), (2, vI x2), (3, vI x3), (4, vL l4), (6, vI (w32 (x6 + (-1))))]) [1, 2, 3, 4, 0] rfl) ?_
      exact z_end (fun g => hin1_1 _ g (inR_w32 _))
    have J61 : ∀ (x6 : Int) (ax6 : inR x6) (l7 : Int) (al7 : inL l7) (h : HP), Z Y (m_Odds_addItem_J61 o x2 x3 l4 x6 l7 h) G1 h 61 [(0, vR ad o), (2, vI x2), (3, vI x3), (4, vL l4), (6, vI x6), (7, vL l7)] [] := by
      intro x6 ax6 l7 al7 h
      unfold m_Odds_addItem_J61
      refine z_s I (s_iload (pc' := 63) 4 rfl D_Odds_addItem_2.1.1.2.2 rfl) ?_
      refine z_s I (s_iload_n (pc' := 64) 2 rfl D_Odds_addItem_2.1.2.1.1 rfl rfl) ?_
      refine z_icmp_lt (tgt := 86) (pc' := 67) I ax6 ax3 D_Odds_addItem_2.1.2.1.2 rfl rfl (fun c9 => ?_) (fun c9 => ?_)
      · exact J86 _ ax6 _ al7 _
      · refine z_s I (s_lload (pc' := 69) 5 rfl D_Odds_addItem_2.1.2.2.1 rfl) ?_
        refine z_s I (s_aload_n (pc' := 70) 0 rfl D_Odds_addItem_2.1.2.2.2 rfl rfl) ?_
        refine z_getR (pc' := 73) (eI := o + 2) I g_Odds_23 ao rfl (by omega) D_Odds_addItem_2.2.1.1.1 rfl ?_
        have k10 : ok τ (1, 33) (o + 2) := r_Odds_ways hw ao (by omega)
        refine z_s I (s_iload (pc' := 75) 4 rfl D_Odds_addItem_2.2.1.1.2 rfl) ?_
        refine z_s I (s_iload_n (pc' := 76) 2 rfl D_Odds_addItem_2.2.1.2.1 rfl rfl) ?_
        refine z_s I (s_isub (pc' := 77) D_Odds_addItem_2.2.1.2.2 rfl) ?_
        refine z_lald (pc' := 78) (nI := 33) I k10 (inR_w32 _) rfl D_Odds_addItem_2.2.2.1.1 rfl (fun c11 f12 => ?_)
        refine z_s I (s_aload_n (pc' := 79) 0 rfl D_Odds_addItem_2.2.2.1.2 rfl rfl) ?_
        refine z_getL (pc' := 82) (jI := 7) I g_Odds_36 ao rfl rfl D_Odds_addItem_2.2.2.2.1 rfl (fun f13 => ?_)
        refine z_s I (s_lmul (pc' := 83) D_Odds_addItem_2.2.2.2.2 rfl) ?_
        refine z_s I (s_ladd (pc' := 84) D_Odds_addItem_3.1.1.1.1 rfl) ?_
        refine z_bL (inL_w64 _) (fun v14 e15 f16 => ?_)
        refine z_s I (s_lstore (pc' := 86) (lv' := [(7, vL v14), (0, vR ad o), (2, vI x2), (3, vI x3), (4, vL l4), (6, vI x6)]) D_Odds_addItem_3.1.1.1.2 (by decide) rfl rfl) ?_
        refine z_s I (s_lv (lv' := [(0, vR ad o), (2, vI x2), (3, vI x3), (4, vL l4), (6, vI x6), (7, vL v14)]) [1, 2, 3, 4, 5, 0] rfl) ?_
        exact J86 _ ax6 _ f16 _
    show Z Y (m_Odds_addItem_L19b o x2 x3 l4 x6 h) G1 h 19 [(0, vR ad o), (2, vI x2), (3, vI x3), (4, vL l4), (6, vI x6)] []
    unfold m_Odds_addItem_L19b
    refine z_s I (s_iload (pc' := 21) 4 rfl D_Odds_addItem_0.2.1.2.2 rfl) ?_
    refine z_if_lt (tgt := 101) (pc' := 24) I ax6 D_Odds_addItem_0.2.2.1.1 rfl rfl (fun c17 => ?_) (fun c17 => ?_)
    · refine z_map _ (fun x g => hout1 x g) ?_
      refine z_s I (s_lv (lv' := [(0, vR ad o)]) [0] rfl) ?_
      exact J101 _
    · refine z_s I (s_aload_n (pc' := 25) 0 rfl D_Odds_addItem_0.2.2.1.2 rfl rfl) ?_
      refine z_getR (pc' := 28) (eI := o + 2) I g_Odds_23 ao rfl (by omega) D_Odds_addItem_0.2.2.2.1 rfl ?_
      have k18 : ok τ (1, 33) (o + 2) := r_Odds_ways hw ao (by omega)
      refine z_s I (s_iload (pc' := 30) 4 rfl D_Odds_addItem_0.2.2.2.2 rfl) ?_
      refine z_lald (pc' := 31) (nI := 33) I k18 ax6 rfl D_Odds_addItem_1.1.1.1.1 rfl (fun c19 f20 => ?_)
      refine z_s I (s_lload (pc' := 33) 3 rfl D_Odds_addItem_1.1.1.1.2 rfl) ?_
      refine z_s I (s_lmul (pc' := 34) D_Odds_addItem_1.1.1.2.1 rfl) ?_
      refine z_bL (inL_w64 _) (fun v21 e22 f23 => ?_)
      refine z_s I (s_lstore (pc' := 36) (lv' := [(7, vL v21), (0, vR ad o), (2, vI x2), (3, vI x3), (4, vL l4), (6, vI x6)]) D_Odds_addItem_1.1.1.2.2 (by decide) rfl rfl) ?_
      refine z_s I (s_iload (pc' := 38) 5 rfl D_Odds_addItem_1.1.2.1.1 rfl) ?_
      refine z_s I (s_iload_n (pc' := 39) 2 rfl D_Odds_addItem_1.1.2.1.2 rfl rfl) ?_
      refine z_icmp_lt (tgt := 61) (pc' := 42) I ax6 ax2 D_Odds_addItem_1.1.2.2.1 rfl rfl (fun c24 => ?_) (fun c24 => ?_)
      · refine z_s I (s_lv (lv' := [(0, vR ad o), (2, vI x2), (3, vI x3), (4, vL l4), (6, vI x6), (7, vL v21)]) [1, 2, 3, 4, 5, 0] rfl) ?_
        exact J61 _ ax6 _ f23 _
      · refine z_s I (s_lload (pc' := 44) 0 rfl D_Odds_addItem_1.1.2.2.2 rfl) ?_
        refine z_s I (s_aload_n (pc' := 45) 1 rfl D_Odds_addItem_1.2.1.1.1 rfl rfl) ?_
        refine z_getR (pc' := 48) (eI := o + 2) I g_Odds_23 ao rfl (by omega) D_Odds_addItem_1.2.1.1.2 rfl ?_
        have k25 : ok τ (1, 33) (o + 2) := r_Odds_ways hw ao (by omega)
        refine z_s I (s_iload (pc' := 50) 5 rfl D_Odds_addItem_1.2.1.2.1 rfl) ?_
        refine z_s I (s_iload_n (pc' := 51) 2 rfl D_Odds_addItem_1.2.1.2.2 rfl rfl) ?_
        refine z_s I (s_isub (pc' := 52) D_Odds_addItem_1.2.2.1.1 rfl) ?_
        refine z_lald (pc' := 53) (nI := 33) I k25 (inR_w32 _) rfl D_Odds_addItem_1.2.2.1.2 rfl (fun c26 f27 => ?_)
        refine z_s I (s_aload_n (pc' := 54) 1 rfl D_Odds_addItem_1.2.2.2.1 rfl rfl) ?_
        refine z_getL (pc' := 57) (jI := 6) I g_Odds_33 ao rfl rfl D_Odds_addItem_1.2.2.2.2 rfl (fun f28 => ?_)
        refine z_s I (s_lmul (pc' := 58) D_Odds_addItem_2.1.1.1.1 rfl) ?_
        refine z_s I (s_ladd (pc' := 59) D_Odds_addItem_2.1.1.1.2 rfl) ?_
        refine z_bL (inL_w64 _) (fun v29 e30 f31 => ?_)
        refine z_s I (s_lstore (pc' := 61) (lv' := [(7, vL v29), (0, vR ad o), (2, vI x2), (3, vI x3), (4, vL l4), (6, vI x6)]) D_Odds_addItem_2.1.1.2.1 (by decide) rfl rfl) ?_
        refine z_s I (s_lv (lv' := [(0, vR ad o), (2, vI x2), (3, vI x3), (4, vL l4), (6, vI x6), (7, vL v29)]) [1, 2, 3, 4, 5, 0] rfl) ?_
        exact J61 _ ax6 _ f31 _
  have main : Z Y (m_Odds_addItem o x1 x2 x3 h) G0 h 0 [(0, vR ad o), (1, vI x1), (2, vI x2), (3, vI x3)] [] := by
    unfold m_Odds_addItem
    refine z_s I (s_aload_n (pc' := 1) 0 rfl D_Odds_addItem_0.1.1.1.1 rfl rfl) ?_
    refine z_getL (pc' := 4) (jI := 8) I g_Odds_39 ao rfl rfl D_Odds_addItem_0.1.1.1.2 rfl (fun f32 => ?_)
    refine z_s I (s_aload_n (pc' := 5) 0 rfl D_Odds_addItem_0.1.1.2.1 rfl rfl) ?_
    refine z_getL (pc' := 8) (jI := 6) I g_Odds_33 ao rfl rfl D_Odds_addItem_0.1.1.2.2 rfl (fun f33 => ?_)
    refine z_s I (s_lsub (pc' := 9) D_Odds_addItem_0.1.2.1.1 rfl) ?_
    refine z_s I (s_aload_n (pc' := 10) 0 rfl D_Odds_addItem_0.1.2.1.2 rfl rfl) ?_
    refine z_getL (pc' := 13) (jI := 7) I g_Odds_36 ao rfl rfl D_Odds_addItem_0.1.2.2.1 rfl (fun f34 => ?_)
    refine z_s I (s_lsub (pc' := 14) D_Odds_addItem_0.1.2.2.2 rfl) ?_
    refine z_bL (inL_w64 _) (fun v35 e36 f37 => ?_)
    refine z_s I (s_lstore (pc' := 16) (lv' := [(4, vL v35), (0, vR ad o), (1, vI x1), (2, vI x2), (3, vI x3)]) D_Odds_addItem_0.2.1.1.1 (by decide) rfl rfl) ?_
    refine z_s I (s_iload_n (pc' := 17) 2 rfl D_Odds_addItem_0.2.1.1.2 rfl rfl) ?_
    refine z_s I (s_istore (pc' := 19) (lv' := [(6, vI x1), (4, vL v35), (0, vR ad o), (1, vI x1), (2, vI x2), (3, vI x3)]) D_Odds_addItem_0.2.1.2.1 (by decide) rfl rfl) ?_
    refine z_s I (s_lv (lv' := [(0, vR ad o), (2, vI x2), (3, vI x3), (4, vL v35), (6, vI x1)]) [2, 4, 5, 1, 0] rfl) ?_
    exact L19 _ f37 _ ax1
  exact main _ hF (by rw [hG0])
set_option maxHeartbeats 4000000 in
set_option maxRecDepth 20000 in
theorem c_Odds_spread {l : Launch} {τ : TP} {o : Int} {r1 : Int} {x2 : Int} {x3 : Int} {x4 : Int} {x5 : Int} {h : HP} {h' : HP} (hw : wf τ) (ao : ok τ (4, 3) o) (ar1 : ok τ (4, 1) r1) (ax2 : inR x2) (ax3 : inR x3) (ax4 : inR x4) (ax5 : inR x5) (hh : hr τ h) (hF : m_Odds_spread o r1 x2 x3 x4 x5 h = some h') : Ctr l y_Odds_spread k_Odds_spread 10 (Option.none : Option FieldType) 2 59 τ (fun ad => [vR ad o, vR ad r1, vI x2, vI x3, vI x4, vI x5]) h none h' (True) := by
  refine ctr_of (by decide) hw hh (fun ad => Nat.le_of_ble_eq_true rfl) (fun ad K Y I hK => ?_)
  obtain ⟨G0, hG0⟩ : ∃ G : HP → Prop, G = fun x => x = h' := ⟨_, rfl⟩
  have gk0 : ∀ (x : HP), G0 x → K none x := fun x g => by
    rw [hG0] at g
    cases g
    exact hK trivial
  have L63 : ∀ (x6 : Int) (ax6 : inR x6) (x7 : Int) (ax7 : inR x7) (s : Int × Int × HP), (inR (s.1) ∧ inR (s.2.1)) → Z Y (m_Odds_spread_L63 o r1 x2 x3 x4 x5 x6 x7 s) G0 (s.2.2) 63 [(0, vR ad o), (1, vR ad r1), (2, vI x2), (3, vI x3), (4, vI x4), (5, vI x5), (6, vI x6), (7, vI x7), (8, vI (s.1)), (9, vI (s.2.1))] [] := by
    intro x6 ax6 x7 ax7 s hs
    refine z_loop (G := G0) (hO := fun s : Int × Int × HP => s.2.2) (lO := fun s : Int × Int × HP => [(0, vR ad o), (1, vR ad r1), (2, vI x2), (3, vI x3), (4, vI x4), (5, vI x5), (6, vI x6), (7, vI x7), (8, vI (s.1)), (9, vI (s.2.1))]) (Φ := fun s : Int × Int × HP => inR (s.1) ∧ inR (s.2.1)) (fun G1 hin1_1 hout1 s hs => ?_) FUEL s hs
    obtain ⟨x8, x9, h⟩ := s
    obtain ⟨ax8, ax9⟩ := hs
    have gk1 := fun (x : HP) (g : G1 (.inr (x))) => gk0 x (hout1 _ g)
    show Z Y (m_Odds_spread_L63b o r1 x2 x3 x4 x5 x6 x7 x8 x9 h) G1 h 63 [(0, vR ad o), (1, vR ad r1), (2, vI x2), (3, vI x3), (4, vI x4), (5, vI x5), (6, vI x6), (7, vI x7), (8, vI x8), (9, vI x9)] []
    unfold m_Odds_spread_L63b
    refine z_s I (s_iload (pc' := 65) 9 rfl D_Odds_spread_2.1.2.1.2 rfl) ?_
    refine z_s I (s_aload_n (pc' := 66) 1 rfl D_Odds_spread_2.1.2.2.1 rfl rfl) ?_
    refine z_getI (pc' := 69) (jI := 0) I g_Odds_47 ar1 rfl rfl D_Odds_spread_2.1.2.2.2 rfl (fun f1 => ?_)
    refine z_icmp_ge (tgt := 160) (pc' := 72) I ax9 f1 D_Odds_spread_2.2.1.1.1 rfl rfl (fun c2 => ?_) (fun c2 => ?_)
    · exact z_ret (w := none) I (fun g => gk1 _ g) rfl D_Odds_spread_5.2.2.2.2 rfl
    · refine z_s I (s_iload (pc' := 74) 9 rfl D_Odds_spread_2.2.1.1.2 rfl) ?_
      refine z_s I (s_iload (pc' := 76) 5 rfl D_Odds_spread_2.2.1.2.1 rfl) ?_
      refine z_icmp_eq (tgt := 154) (pc' := 79) I ax9 ax5 D_Odds_spread_2.2.1.2.2 rfl rfl (fun c3 => ?_) (fun c3 => ?_)
      · refine z_s I (s_iinc (pc' := 157) (lv' := [(9, vI (w32 (x9 + 1))), (0, vR ad o), (1, vR ad r1), (2, vI x2), (3, vI x3), (4, vI x4), (5, vI x5), (6, vI x6), (7, vI x7), (8, vI x8)]) (n := 9) rfl D_Odds_spread_5.2.2.1 (by decide) rfl rfl) ?_
        refine z_s I (s_goto (tgt := 63) D_Odds_spread_5.2.2.2.1 rfl) ?_
        refine z_s I (s_lv (lv' := [(0, vR ad o), (1, vR ad r1), (2, vI x2), (3, vI x3), (4, vI x4), (5, vI x5), (6, vI x6), (7, vI x7), (8, vI x8), (9, vI (w32 (x9 + 1)))]) [1, 2, 3, 4, 5, 6, 7, 8, 9, 0] rfl) ?_
        exact z_end (fun g => hin1_1 _ g ⟨ax8, (inR_w32 _)⟩)
      · refine z_s I (s_aload_n (pc' := 80) 1 rfl D_Odds_spread_2.2.2.1.1 rfl rfl) ?_
        refine z_s I (s_iload (pc' := 82) 9 rfl D_Odds_spread_2.2.2.1.2 rfl) ?_
        refine z_s I (s_iload_n (pc' := 83) 2 rfl D_Odds_spread_2.2.2.2.1 rfl rfl) ?_
        refine z_s I (s_iload_n (pc' := 84) 3 rfl D_Odds_spread_2.2.2.2.2 rfl rfl) ?_
        refine z_b1 (fun r6 q5 => ?_)
        refine z_callV (pc' := 87) I mv_Exam_bothGave ml_Odds_50 (fun ad => [vI x9, vI x2, vI x3]) ⟨Nat.le_of_ble_eq_true rfl, Nat.le_of_ble_eq_true rfl⟩ ar1 (fun hh => c_Exam_bothGave hw ar1 ax9 ax2 ax3 hh q5) rfl rfl (Nat.le_of_ble_eq_true rfl) D_Odds_spread_3.1.1.1.1 rfl (fun f4 => ?_)
        refine z_if_eq (tgt := 154) (pc' := 90) I (b01.R f4) D_Odds_spread_3.1.1.1.2 rfl rfl (fun c7 => ?_) (fun c7 => ?_)
        · refine z_s I (s_iinc (pc' := 157) (lv' := [(9, vI (w32 (x9 + 1))), (0, vR ad o), (1, vR ad r1), (2, vI x2), (3, vI x3), (4, vI x4), (5, vI x5), (6, vI x6), (7, vI x7), (8, vI x8)]) (n := 9) rfl D_Odds_spread_5.2.2.1 (by decide) rfl rfl) ?_
          refine z_s I (s_goto (tgt := 63) D_Odds_spread_5.2.2.2.1 rfl) ?_
          refine z_s I (s_lv (lv' := [(0, vR ad o), (1, vR ad r1), (2, vI x2), (3, vI x3), (4, vI x4), (5, vI x5), (6, vI x6), (7, vI x7), (8, vI x8), (9, vI (w32 (x9 + 1)))]) [1, 2, 3, 4, 5, 6, 7, 8, 9, 0] rfl) ?_
          exact z_end (fun g => hin1_1 _ g ⟨ax8, (inR_w32 _)⟩)
        · refine z_s I (s_aload_n (pc' := 91) 0 rfl D_Odds_spread_3.1.1.2.1 rfl rfl) ?_
          refine z_s I (s_aload_n (pc' := 92) 1 rfl D_Odds_spread_3.1.1.2.2 rfl rfl) ?_
          refine z_s I (s_iload (pc' := 94) 9 rfl D_Odds_spread_3.1.2.1.1 rfl) ?_
          refine z_s I (s_iload_n (pc' := 95) 2 rfl D_Odds_spread_3.1.2.1.2 rfl rfl) ?_
          refine z_s I (s_iload_n (pc' := 96) 3 rfl D_Odds_spread_3.1.2.2.1 rfl rfl) ?_
          refine z_b1 (fun h10 q9 => ?_)
          refine z_callV (pc' := 99) I mv_Odds_takeShares ml_Odds_54 (fun ad => [vR ad r1, vI x9, vI x2, vI x3]) ⟨Nat.le_of_ble_eq_true rfl, Nat.le_of_ble_eq_true rfl⟩ ao (fun hh => c_Odds_takeShares hw ao ar1 ax9 ax2 ax3 hh q9) rfl rfl (Nat.le_of_ble_eq_true rfl) D_Odds_spread_3.1.2.2.2 rfl (fun f8 => ?_)
          refine z_s I (s_aload_n (pc' := 100) 0 rfl D_Odds_spread_3.2.1.1.1 rfl rfl) ?_
          refine z_s I (s_aload_n (pc' := 101) 1 rfl D_Odds_spread_3.2.1.1.2 rfl rfl) ?_
          refine z_s I (s_iload (pc' := 103) 9 rfl D_Odds_spread_3.2.1.2.1 rfl) ?_
          refine z_s I (s_iload_n (pc' := 104) 2 rfl D_Odds_spread_3.2.1.2.2 rfl rfl) ?_
          refine z_s I (s_iload_n (pc' := 105) 3 rfl D_Odds_spread_3.2.2.1.1 rfl rfl) ?_
          refine z_s I (s_iload (pc' := 107) 4 rfl D_Odds_spread_3.2.2.1.2 rfl) ?_
          refine z_b1 (fun h13 q12 => ?_)
          refine z_callV (pc' := 110) I mv_Odds_weigh ml_Odds_58 (fun ad => [vR ad r1, vI x9, vI x2, vI x3, vI x4]) ⟨Nat.le_of_ble_eq_true rfl, Nat.le_of_ble_eq_true rfl⟩ ao (fun hh => c_Odds_weigh hw ao ar1 ax9 ax2 ax3 ax4 hh q12) rfl rfl (Nat.le_of_ble_eq_true rfl) D_Odds_spread_3.2.2.2.1 rfl (fun f11 => ?_)
          refine z_s I (s_iload (pc' := 112) 8 rfl D_Odds_spread_3.2.2.2.2 rfl) ?_
          refine z_s I (s_iload (pc' := 114) 6 rfl D_Odds_spread_4.1.1.1.1 rfl) ?_
          refine z_s I (s_iload (pc' := 116) 7 rfl D_Odds_spread_4.1.1.1.2 rfl) ?_
          refine z_mmax (pc' := 119) I ax6 ax7 ml_Odds_62 (Nat.le_of_ble_eq_true rfl) (Nat.le_of_ble_eq_true rfl) D_Odds_spread_4.1.1.2.1 rfl (fun f14 => ?_)
          refine z_bI f14 (fun v15 e16 f17 => ?_)
          refine z_s I (s_iadd (pc' := 120) D_Odds_spread_4.1.1.2.2 rfl) ?_
          refine z_s I (s_bipush (pc' := 122) D_Odds_spread_4.1.2.1.1 rfl rfl) ?_
          refine z_mmin (pc' := 125) I (inR_w32 _) (inR_c (x := 32) rfl) ml_Odds_68 (Nat.le_of_ble_eq_true rfl) (Nat.le_of_ble_eq_true rfl) D_Odds_spread_4.1.2.1.2 rfl (fun f18 => ?_)
          refine z_bI f18 (fun v19 e20 f21 => ?_)
          refine z_s I (s_istore (pc' := 127) (lv' := [(8, vI v19), (0, vR ad o), (1, vR ad r1), (2, vI x2), (3, vI x3), (4, vI x4), (5, vI x5), (6, vI x6), (7, vI x7), (9, vI x9)]) D_Odds_spread_4.1.2.2.1 (by decide) rfl rfl) ?_
          refine z_s I (s_aload_n (pc' := 128) 1 rfl D_Odds_spread_4.1.2.2.2 rfl rfl) ?_
          refine z_s I (s_iload (pc' := 130) 0 rfl D_Odds_spread_4.2.1.1.1 rfl) ?_
          refine z_s I (s_iload (pc' := 132) 7 rfl D_Odds_spread_4.2.1.1.2 rfl) ?_
          refine z_s I (s_iload (pc' := 134) 8 rfl D_Odds_spread_4.2.1.2.1 rfl) ?_
          refine z_b1 (fun h24 q23 => ?_)
          refine z_callV (pc' := 137) I mv_Odds_addItem ml_Odds_71 (fun ad => [vI v19, vI x6, vI x7]) ⟨Nat.le_of_ble_eq_true rfl, Nat.le_of_ble_eq_true rfl⟩ ao (fun hh => c_Odds_addItem hw ao f21 ax6 ax7 hh q23) rfl rfl (Nat.le_of_ble_eq_true rfl) D_Odds_spread_4.2.1.2.2 rfl (fun f22 => ?_)
          refine z_s I (s_aload_n (pc' := 138) 1 rfl D_Odds_spread_4.2.2.1.1 rfl rfl) ?_
          refine z_s I (s_dup (pc' := 139) rfl D_Odds_spread_4.2.2.1.2 rfl) ?_
          refine z_getI (pc' := 142) (jI := 5) I g_Odds_30 ao rfl rfl D_Odds_spread_4.2.2.2.1 rfl (fun f25 => ?_)
          refine z_s I (s_aload_n (pc' := 143) 2 rfl D_Odds_spread_4.2.2.2.2 rfl rfl) ?_
          refine z_s I (s_iload (pc' := 145) 9 rfl D_Odds_spread_5.1.1.1 rfl) ?_
          refine z_s I (s_iload_n (pc' := 146) 3 rfl D_Odds_spread_5.1.1.2 rfl rfl) ?_
          refine z_s I (s_iload_n (pc' := 147) 4 rfl D_Odds_spread_5.1.2.1 rfl rfl) ?_
          refine z_b1 (fun r28 q27 => ?_)
          refine z_callV (pc' := 150) I mv_Exam_likenessAt ml_Odds_75 (fun ad => [vI x9, vI x2, vI x3]) ⟨Nat.le_of_ble_eq_true rfl, Nat.le_of_ble_eq_true rfl⟩ ar1 (fun hh => c_Exam_likenessAt hw ar1 ax9 ax2 ax3 hh q27) rfl rfl (Nat.le_of_ble_eq_true rfl) D_Odds_spread_5.1.2.2 rfl (fun f26 => ?_)
          refine z_s I (s_iadd (pc' := 151) D_Odds_spread_5.2.1.1 rfl) ?_
          refine z_putI (pc' := 154) (jI := 5) I p_Odds_30 ao rfl rfl (inR_w32 _) D_Odds_spread_5.2.1.2 rfl ?_
          refine z_bH (fun h29 e30 => ?_)
          refine z_s I (s_iinc (pc' := 157) (lv' := [(9, vI (w32 (x9 + 1))), (8, vI v19), (0, vR ad o), (1, vR ad r1), (2, vI x2), (3, vI x3), (4, vI x4), (5, vI x5), (6, vI x6), (7, vI x7)]) (n := 9) rfl D_Odds_spread_5.2.2.1 (by decide) rfl rfl) ?_
          refine z_s I (s_goto (tgt := 63) D_Odds_spread_5.2.2.2.1 rfl) ?_
          refine z_s I (s_lv (lv' := [(0, vR ad o), (1, vR ad r1), (2, vI x2), (3, vI x3), (4, vI x4), (5, vI x5), (6, vI x6), (7, vI x7), (8, vI v19), (9, vI (w32 (x9 + 1)))]) [2, 3, 4, 5, 6, 7, 8, 9, 1, 0] rfl) ?_
          exact z_end (fun g => hin1_1 _ g ⟨f21, (inR_w32 _)⟩)
  have J24 : ∀ (h : HP), Z Y (m_Odds_spread_J24 o r1 x2 x3 x4 x5 h) G0 h 24 [(0, vR ad o), (1, vR ad r1), (2, vI x2), (3, vI x3), (4, vI x4), (5, vI x5)] [] := by
    intro h
    unfold m_Odds_spread_J24
    refine z_s I (s_aload_n (pc' := 25) 0 rfl D_Odds_spread_0.2.2.1.1 rfl rfl) ?_
    refine z_getR (pc' := 28) (eI := o + 2) I g_Odds_23 ao rfl (by omega) D_Odds_spread_0.2.2.1.2 rfl ?_
    have k31 : ok τ (1, 33) (o + 2) := r_Odds_ways hw ao (by omega)
    refine z_s I (s_iconst (pc' := 29) D_Odds_spread_0.2.2.2.1 rfl) ?_
    refine z_s I (s_lconst (pc' := 30) (x := 1) D_Odds_spread_0.2.2.2.2 rfl rfl) ?_
    refine z_g (c := 0 ≤ (0 : Int) ∧ (0 : Int) < 33) (by decide) ?_
    refine z_last (pc' := 31) (nI := 33) I k31 (b01.R bz0) (inL_c (x := 1) rfl) rfl D_Odds_spread_1.1.1.1.1 rfl (fun c32 => ?_)
    refine z_bH (fun h33 e34 => ?_)
    refine z_s I (s_aload_n (pc' := 32) 0 rfl D_Odds_spread_1.1.1.1.2 rfl rfl) ?_
    refine z_s I (s_lconst (pc' := 33) (x := 1) D_Odds_spread_1.1.1.2.1 rfl rfl) ?_
    refine z_putL (pc' := 36) (jI := 4) I p_Odds_27 ao rfl rfl (inL_c (x := 1) rfl) D_Odds_spread_1.1.1.2.2 rfl ?_
    refine z_bH (fun h35 e36 => ?_)
    refine z_s I (s_aload_n (pc' := 37) 0 rfl D_Odds_spread_1.1.2.1.1 rfl rfl) ?_
    refine z_s I (s_iconst (pc' := 38) D_Odds_spread_1.1.2.1.2 rfl) ?_
    refine z_putI (pc' := 41) (jI := 5) I p_Odds_30 ao rfl rfl (b01.R bz0) D_Odds_spread_1.1.2.2.1 rfl ?_
    refine z_bH (fun h37 e38 => ?_)
    refine z_s I (s_aload_n (pc' := 42) 1 rfl D_Odds_spread_1.1.2.2.2 rfl rfl) ?_
    refine z_getR (pc' := 45) (eI := r1 + 23) I g_Odds_42 ar1 rfl (by omega) D_Odds_spread_1.2.1.1.1 rfl ?_
    have k39 : ok τ (0, 6) (r1 + 23) := r_Exam_used hw ar1 (by omega)
    refine z_s I (s_iconst (pc' := 46) D_Odds_spread_1.2.1.1.2 rfl) ?_
    refine z_g (c := 0 ≤ (4 : Int) ∧ (4 : Int) < 6) (by decide) ?_
    refine z_iald (pc' := 47) (nI := 6) I k39 (inR_c (x := 4) rfl) rfl D_Odds_spread_1.2.1.2.1 rfl (fun c40 f41 => ?_)
    refine z_bI f41 (fun v42 e43 f44 => ?_)
    refine z_s I (s_istore (pc' := 49) (lv' := [(6, vI v42), (0, vR ad o), (1, vR ad r1), (2, vI x2), (3, vI x3), (4, vI x4), (5, vI x5)]) D_Odds_spread_1.2.1.2.2 (by decide) rfl rfl) ?_
    refine z_s I (s_aload_n (pc' := 50) 2 rfl D_Odds_spread_1.2.2.1.1 rfl rfl) ?_
    refine z_getR (pc' := 53) (eI := r1 + 23) I g_Odds_42 ar1 rfl (by omega) D_Odds_spread_1.2.2.1.2 rfl ?_
    have k45 : ok τ (0, 6) (r1 + 23) := r_Exam_used hw ar1 (by omega)
    refine z_s I (s_iconst (pc' := 54) D_Odds_spread_1.2.2.2.1 rfl) ?_
    refine z_g (c := 0 ≤ (5 : Int) ∧ (5 : Int) < 6) (by decide) ?_
    refine z_iald (pc' := 55) (nI := 6) I k45 (inR_c (x := 5) rfl) rfl D_Odds_spread_1.2.2.2.2 rfl (fun c46 f47 => ?_)
    refine z_bI f47 (fun v48 e49 f50 => ?_)
    refine z_s I (s_istore (pc' := 57) (lv' := [(7, vI v48), (6, vI v42), (0, vR ad o), (1, vR ad r1), (2, vI x2), (3, vI x3), (4, vI x4), (5, vI x5)]) D_Odds_spread_2.1.1.1.1 (by decide) rfl rfl) ?_
    refine z_s I (s_iconst (pc' := 58) D_Odds_spread_2.1.1.1.2 rfl) ?_
    refine z_s I (s_istore (pc' := 60) (lv' := [(8, vI 0), (7, vI v48), (6, vI v42), (0, vR ad o), (1, vR ad r1), (2, vI x2), (3, vI x3), (4, vI x4), (5, vI x5)]) D_Odds_spread_2.1.1.2.1 (by decide) rfl rfl) ?_
    refine z_s I (s_iconst (pc' := 61) D_Odds_spread_2.1.1.2.2 rfl) ?_
    refine z_s I (s_istore (pc' := 63) (lv' := [(9, vI 0), (8, vI 0), (7, vI v48), (6, vI v42), (0, vR ad o), (1, vR ad r1), (2, vI x2), (3, vI x3), (4, vI x4), (5, vI x5)]) D_Odds_spread_2.1.2.1.1 (by decide) rfl rfl) ?_
    refine z_s I (s_lv (lv' := [(0, vR ad o), (1, vR ad r1), (2, vI x2), (3, vI x3), (4, vI x4), (5, vI x5), (6, vI v42), (7, vI v48), (8, vI 0), (9, vI 0)]) [4, 5, 6, 7, 8, 9, 3, 2, 1, 0] rfl) ?_
    exact L63 _ f44 _ f50 _ ⟨(b01.R bz0), (b01.R bz0)⟩
  have L3 : ∀ (s : Int × HP), (inR (s.1)) → Z Y (m_Odds_spread_L3 o r1 x2 x3 x4 x5 s) G0 (s.2) 3 [(0, vR ad o), (1, vR ad r1), (2, vI x2), (3, vI x3), (4, vI x4), (5, vI x5), (6, vI (s.1))] [] := by
    intro s hs
    refine z_loop (G := G0) (hO := fun s : Int × HP => s.2) (lO := fun s : Int × HP => [(0, vR ad o), (1, vR ad r1), (2, vI x2), (3, vI x3), (4, vI x4), (5, vI x5), (6, vI (s.1))]) (Φ := fun s : Int × HP => inR (s.1)) (fun G1 hin1_1 hout1 s hs => ?_) FUEL s hs
    obtain ⟨x6, h⟩ := s
    have ax6 := hs
    have gk1 := fun (x : HP) (g : G1 (.inr (x))) => gk0 x (hout1 _ g)
    show Z Y (m_Odds_spread_L3b o r1 x2 x3 x4 x5 x6 h) G1 h 3 [(0, vR ad o), (1, vR ad r1), (2, vI x2), (3, vI x3), (4, vI x4), (5, vI x5), (6, vI x6)] []
    unfold m_Odds_spread_L3b
    refine z_s I (s_iload (pc' := 5) 6 rfl D_Odds_spread_0.1.1.2.1 rfl) ?_
    refine z_s I (s_bipush (pc' := 7) D_Odds_spread_0.1.1.2.2 rfl rfl) ?_
    refine z_icmp_gt (tgt := 24) (pc' := 10) I ax6 (inR_c (x := 32) rfl) D_Odds_spread_0.1.2.1.1 rfl rfl (fun c51 => ?_) (fun c51 => ?_)
    · refine z_map _ (fun x g => hout1 x g) ?_
      refine z_s I (s_lv (lv' := [(0, vR ad o), (1, vR ad r1), (2, vI x2), (3, vI x3), (4, vI x4), (5, vI x5)]) [0, 1, 2, 3, 4, 5] rfl) ?_
      exact J24 _
    · refine z_s I (s_aload_n (pc' := 11) 0 rfl D_Odds_spread_0.1.2.1.2 rfl rfl) ?_
      refine z_getR (pc' := 14) (eI := o + 2) I g_Odds_23 ao rfl (by omega) D_Odds_spread_0.1.2.2.1 rfl ?_
      have k52 : ok τ (1, 33) (o + 2) := r_Odds_ways hw ao (by omega)
      refine z_s I (s_iload (pc' := 16) 6 rfl D_Odds_spread_0.1.2.2.2 rfl) ?_
      refine z_s I (s_lconst (pc' := 17) (x := 0) D_Odds_spread_0.2.1.1.1 rfl rfl) ?_
      refine z_last (pc' := 18) (nI := 33) I k52 ax6 (inL_c (x := 0) rfl) rfl D_Odds_spread_0.2.1.1.2 rfl (fun c53 => ?_)
      refine z_bH (fun h54 e55 => ?_)
      refine z_s I (s_iinc (pc' := 21) (lv' := [(6, vI (w32 (x6 + 1))), (0, vR ad o), (1, vR ad r1), (2, vI x2), (3, vI x3), (4, vI x4), (5, vI x5)]) (n := 6) rfl D_Odds_spread_0.2.1.2.1 (by decide) rfl rfl) ?_
      refine z_s I (s_goto (tgt := 3) D_Odds_spread_0.2.1.2.2 rfl) ?_
      refine z_s I (s_lv (lv' := [(0, vR ad o), (1, vR ad r1), (2, vI x2), (3, vI x3), (4, vI x4), (5, vI x5), (6, vI (w32 (x6 + 1)))]) [1, 2, 3, 4, 5, 6, 0] rfl) ?_
      exact z_end (fun g => hin1_1 _ g (inR_w32 _))
  have main : Z Y (m_Odds_spread o r1 x2 x3 x4 x5 h) G0 h 0 [(0, vR ad o), (1, vR ad r1), (2, vI x2), (3, vI x3), (4, vI x4), (5, vI x5)] [] := by
    unfold m_Odds_spread
    refine z_s I (s_iconst (pc' := 1) D_Odds_spread_0.1.1.1.1 rfl) ?_
    refine z_s I (s_istore (pc' := 3) (lv' := [(6, vI 1), (0, vR ad o), (1, vR ad r1), (2, vI x2), (3, vI x3), (4, vI x4), (5, vI x5)]) D_Odds_spread_0.1.1.1.2 (by decide) rfl rfl) ?_
    refine z_s I (s_lv (lv' := [(0, vR ad o), (1, vR ad r1), (2, vI x2), (3, vI x3), (4, vI x4), (5, vI x5), (6, vI 1)]) [1, 2, 3, 4, 5, 6, 0] rfl) ?_
    exact L3 _ (b01.R bz1)
  exact main _ hF (by rw [hG0])
set_option maxHeartbeats 4000000 in
set_option maxRecDepth 20000 in
theorem c_Ratio_commonDivisor {l : Launch} {τ : TP} {l0 : Int} {l2 : Int} {h : HP} {r : Int} (hw : wf τ) (al0 : inL l0) (al2 : inL l2) (hh : hr τ h) (hF : m_Ratio_commonDivisor l0 l2 h = some r) : Ctr l y_Ratio_commonDivisor k_Ratio_commonDivisor 7 (Option.some FieldType.long) 0 0 τ (fun ad => [vL l0, vL l2]) h (some (vL r)) h (inL r) := by
  refine ctr_of (by decide) hw hh (fun ad => Nat.le_of_ble_eq_true rfl) (fun ad K Y I hK => ?_)
  obtain ⟨G0, hG0⟩ : ∃ G : Int → Prop, G = fun x => x = r := ⟨_, rfl⟩
  have gk0 : ∀ (x : Int), G0 x → inL x → K (some (vL x)) h := fun x g q => by
    rw [hG0] at g
    cases g
    exact hK q
  have L3 : ∀ (s : Int × Int × Int), (inL (s.1) ∧ inL (s.2.1) ∧ inR (s.2.2)) → Z Y (m_Ratio_commonDivisor_L3 h s) G0 h 3 [(0, vL (s.1)), (2, vL (s.2.1)), (4, vI (s.2.2))] [] := by
    intro s hs
    refine z_loop (G := G0) (hO := fun s : Int × Int × Int => h) (lO := fun s : Int × Int × Int => [(0, vL (s.1)), (2, vL (s.2.1)), (4, vI (s.2.2))]) (Φ := fun s : Int × Int × Int => inL (s.1) ∧ inL (s.2.1) ∧ inR (s.2.2)) (fun G1 hin1_1 hout1 s hs => ?_) FUEL s hs
    obtain ⟨l0, l2, x4⟩ := s
    obtain ⟨al0, al2, ax4⟩ := hs
    have gk1 := fun (x : Int) (g : G1 (.inr (x))) (q : inL x) => gk0 x (hout1 _ g) q
    show Z Y (m_Ratio_commonDivisor_L3b h l0 l2 x4) G1 h 3 [(0, vL l0), (2, vL l2), (4, vI x4)] []
    unfold m_Ratio_commonDivisor_L3b
    refine z_s I (s_iload (pc' := 5) 2 rfl D_Ratio_commonDivisor_0.1.1.2.1 rfl) ?_
    refine z_s I (s_sipush (pc' := 8) D_Ratio_commonDivisor_0.1.1.2.2 rfl rfl) ?_
    refine z_icmp_ge (tgt := 33) (pc' := 11) I ax4 (inR_c (x := 1000) rfl) D_Ratio_commonDivisor_0.1.2.1.1 rfl rfl (fun c1 => ?_) (fun c1 => ?_)
    · refine z_s I (s_lload_n (pc' := 34) 0 rfl D_Ratio_commonDivisor_1.2.2.1 rfl rfl) ?_
      exact z_ret (w := some (vL l0)) I (fun g => gk1 _ g al0) ⟨_, rfl⟩ D_Ratio_commonDivisor_1.2.2.2 rfl
    · refine z_s I (s_lload_n (pc' := 12) 1 rfl D_Ratio_commonDivisor_0.1.2.1.2 rfl rfl) ?_
      refine z_s I (s_lconst (pc' := 13) (x := 0) D_Ratio_commonDivisor_0.1.2.2.1 rfl rfl) ?_
      refine z_s I (s_lcmp (pc' := 14) al2 (inL_c (x := 0) rfl) D_Ratio_commonDivisor_0.1.2.2.2 rfl) ?_
      refine z_if_eq (tgt := 33) (pc' := 17) I (inR_lCmp _ _) D_Ratio_commonDivisor_0.2.1.1.1 rfl rfl (fun c2 => ?_) (fun c2 => ?_)
      · refine z_s I (s_lload_n (pc' := 34) 0 rfl D_Ratio_commonDivisor_1.2.2.1 rfl rfl) ?_
        exact z_ret (w := some (vL l0)) I (fun g => gk1 _ g al0) ⟨_, rfl⟩ D_Ratio_commonDivisor_1.2.2.2 rfl
      · refine z_s I (s_lload_n (pc' := 18) 0 rfl D_Ratio_commonDivisor_0.2.1.1.2 rfl rfl) ?_
        refine z_s I (s_lload_n (pc' := 19) 1 rfl D_Ratio_commonDivisor_0.2.1.2.1 rfl rfl) ?_
        refine z_lrem (pc' := 20) I al2 D_Ratio_commonDivisor_0.2.1.2.2 rfl (fun c3 => ?_)
        refine z_bL (r_lRem _ _) (fun v4 e5 f6 => ?_)
        refine z_s I (s_lstore (pc' := 22) (lv' := [(5, vL v4), (0, vL l0), (2, vL l2), (4, vI x4)]) D_Ratio_commonDivisor_0.2.2.1.1 (by decide) rfl rfl) ?_
        refine z_s I (s_lload_n (pc' := 23) 2 rfl D_Ratio_commonDivisor_0.2.2.1.2 rfl rfl) ?_
        refine z_s I (s_lstore_n (pc' := 24) (lv' := [(0, vL l2), (5, vL v4), (2, vL l2), (4, vI x4)]) D_Ratio_commonDivisor_0.2.2.2.1 rfl (by decide) rfl rfl) ?_
        refine z_s I (s_lload (pc' := 26) 1 rfl D_Ratio_commonDivisor_0.2.2.2.2 rfl) ?_
        refine z_s I (s_lstore_n (pc' := 27) (lv' := [(2, vL v4), (0, vL l2), (5, vL v4), (4, vI x4)]) D_Ratio_commonDivisor_1.1.1 rfl (by decide) rfl rfl) ?_
        refine z_s I (s_iinc (pc' := 30) (lv' := [(4, vI (w32 (x4 + 1))), (2, vL v4), (0, vL l2), (5, vL v4)]) (n := 3) rfl D_Ratio_commonDivisor_1.1.2 (by decide) rfl rfl) ?_
        refine z_s I (s_goto (tgt := 3) D_Ratio_commonDivisor_1.2.1 rfl) ?_
        refine z_s I (s_lv (lv' := [(0, vL l2), (2, vL v4), (4, vI (w32 (x4 + 1)))]) [2, 1, 0] rfl) ?_
        exact z_end (fun g => hin1_1 _ g ⟨al2, f6, (inR_w32 _)⟩)
  have main : Z Y (m_Ratio_commonDivisor l0 l2 h) G0 h 0 [(0, vL l0), (2, vL l2)] [] := by
    unfold m_Ratio_commonDivisor
    refine z_s I (s_iconst (pc' := 1) D_Ratio_commonDivisor_0.1.1.1.1 rfl) ?_
    refine z_s I (s_istore (pc' := 3) (lv' := [(4, vI 0), (0, vL l0), (2, vL l2)]) D_Ratio_commonDivisor_0.1.1.1.2 (by decide) rfl rfl) ?_
    refine z_s I (s_lv (lv' := [(0, vL l0), (2, vL l2), (4, vI 0)]) [1, 2, 0] rfl) ?_
    exact L3 _ ⟨al0, al2, (b01.R bz0)⟩
  exact main _ hF (by rw [hG0])
set_option maxHeartbeats 4000000 in
set_option maxRecDepth 20000 in
theorem c_Ratio_put {l : Launch} {τ : TP} {o : Int} {l1 : Int} {l3 : Int} {h : HP} {h' : HP} (hw : wf τ) (ao : ok τ (4, 5) o) (al1 : inL l1) (al3 : inL l3) (hh : hr τ h) (hF : m_Ratio_put o l1 l3 h = some h') : Ctr l y_Ratio_put k_Ratio_put 7 (Option.none : Option FieldType) 1 26 τ (fun ad => [vR ad o, vL l1, vL l3]) h none h' (True) := by
  refine ctr_of (by decide) hw hh (fun ad => Nat.le_of_ble_eq_true rfl) (fun ad K Y I hK => ?_)
  obtain ⟨G0, hG0⟩ : ∃ G : HP → Prop, G = fun x => x = h' := ⟨_, rfl⟩
  have gk0 : ∀ (x : HP), G0 x → K none x := fun x g => by
    rw [hG0] at g
    cases g
    exact hK trivial
  have main : Z Y (m_Ratio_put o l1 l3 h) G0 h 0 [(0, vR ad o), (1, vL l1), (3, vL l3)] [] := by
    unfold m_Ratio_put
    refine z_s I (s_lload_n (pc' := 1) 1 rfl D_Ratio_put_0.1.1.1.1 rfl rfl) ?_
    refine z_s I (s_lload_n (pc' := 2) 2 rfl D_Ratio_put_0.1.1.1.2 rfl rfl) ?_
    refine z_b1 (fun r3 q2 => ?_)
    refine z_callS (pc' := 5) I mv_Ratio_commonDivisor ml_Ratio_16 (fun ad => [vL l1, vL l3]) ⟨Nat.le_of_ble_eq_true rfl, Nat.le_of_ble_eq_true rfl⟩ (fun hh => c_Ratio_commonDivisor hw al1 al3 hh q2) rfl rfl (Nat.le_of_ble_eq_true rfl) D_Ratio_put_0.1.1.2.1 rfl (fun f1 => ?_)
    refine z_s I (s_lstore (pc' := 7) (lv' := [(5, vL r3), (0, vR ad o), (1, vL l1), (3, vL l3)]) D_Ratio_put_0.1.1.2.2 (by decide) rfl rfl) ?_
    refine z_s I (s_lload (pc' := 9) 0 rfl D_Ratio_put_0.1.2.1.1 rfl) ?_
    refine z_s I (s_lconst (pc' := 10) (x := 0) D_Ratio_put_0.1.2.1.2 rfl rfl) ?_
    refine z_s I (s_lcmp (pc' := 11) f1 (inL_c (x := 0) rfl) D_Ratio_put_0.1.2.2.1 rfl) ?_
    refine z_if_le (tgt := 30) (pc' := 14) I (inR_lCmp _ _) D_Ratio_put_0.1.2.2.2 rfl rfl (fun c4 => ?_) (fun c4 => ?_)
    · exact z_ret (w := none) I (fun g => gk0 _ g) rfl D_Ratio_put_1.2.2 rfl
    · refine z_s I (s_aload_n (pc' := 15) 1 rfl D_Ratio_put_0.2.1.1.1 rfl rfl) ?_
      refine z_s I (s_lload_n (pc' := 16) 2 rfl D_Ratio_put_0.2.1.1.2 rfl rfl) ?_
      refine z_s I (s_lload (pc' := 18) 0 rfl D_Ratio_put_0.2.1.2.1 rfl) ?_
      refine z_ldiv (pc' := 19) I f1 D_Ratio_put_0.2.1.2.2 rfl (fun c5 => ?_)
      refine z_putL (pc' := 22) (jI := 0) I p_Ratio_7 ao rfl rfl (r_lDiv _ _) D_Ratio_put_0.2.2.1.1 rfl ?_
      refine z_bH (fun h6 e7 => ?_)
      refine z_s I (s_aload_n (pc' := 23) 1 rfl D_Ratio_put_0.2.2.1.2 rfl rfl) ?_
      refine z_s I (s_lload_n (pc' := 24) 3 rfl D_Ratio_put_0.2.2.2.1 rfl rfl) ?_
      refine z_s I (s_lload (pc' := 26) 0 rfl D_Ratio_put_0.2.2.2.2 rfl) ?_
      refine z_ldiv (pc' := 27) I f1 D_Ratio_put_1.1 rfl (fun c8 => ?_)
      refine z_putL (pc' := 30) (jI := 1) I p_Ratio_13 ao rfl rfl (r_lDiv _ _) D_Ratio_put_1.2.1 rfl ?_
      refine z_bH (fun h9 e10 => ?_)
      exact z_ret (w := none) I (fun g => gk0 _ g) rfl D_Ratio_put_1.2.2 rfl
  exact main _ hF (by rw [hG0])
set_option maxHeartbeats 4000000 in
set_option maxRecDepth 20000 in
theorem c_Odds_asGreat {l : Launch} {τ : TP} {o : Int} {r1 : Int} {h : HP} {h' : HP} (hw : wf τ) (ao : ok τ (4, 3) o) (ar1 : ok τ (4, 5) r1) (hh : hr τ h) (hF : m_Odds_asGreat o r1 h = some h') : Ctr l y_Odds_asGreat k_Odds_asGreat 5 (Option.none : Option FieldType) 2 52 τ (fun ad => [vR ad o, vR ad r1]) h none h' (True) := by
  refine ctr_of (by decide) hw hh (fun ad => Nat.le_of_ble_eq_true rfl) (fun ad K Y I hK => ?_)
  obtain ⟨G0, hG0⟩ : ∃ G : HP → Prop, G = fun x => x = h' := ⟨_, rfl⟩
  have gk0 : ∀ (x : HP), G0 x → K none x := fun x g => by
    rw [hG0] at g
    cases g
    exact hK trivial
  have J31 : ∀ (l2 : Int) (al2 : inL l2) (h : HP), Z Y (m_Odds_asGreat_J31 o r1 l2 h) G0 h 31 [(0, vR ad o), (1, vR ad r1), (2, vL l2)] [] := by
    intro l2 al2 h
    unfold m_Odds_asGreat_J31
    refine z_s I (s_aload_n (pc' := 32) 1 rfl D_Odds_asGreat_1.1.2.1 rfl rfl) ?_
    refine z_s I (s_lload_n (pc' := 33) 2 rfl D_Odds_asGreat_1.1.2.2 rfl rfl) ?_
    refine z_s I (s_aload_n (pc' := 34) 0 rfl D_Odds_asGreat_1.2.1.1 rfl rfl) ?_
    refine z_getL (pc' := 37) (jI := 4) I g_Odds_27 ao rfl rfl D_Odds_asGreat_1.2.1.2 rfl (fun f1 => ?_)
    refine z_b1 (fun h4 q3 => ?_)
    refine z_callV (pc' := 40) I mv_Ratio_put ml_Odds_79 (fun ad => [vL l2, vL (h o 4)]) ⟨Nat.le_of_ble_eq_true rfl, Nat.le_of_ble_eq_true rfl⟩ ar1 (fun hh => c_Ratio_put hw ar1 al2 f1 hh q3) rfl rfl (Nat.le_of_ble_eq_true rfl) D_Odds_asGreat_1.2.2.1 rfl (fun f2 => ?_)
    exact z_ret (w := none) I (fun g => gk0 _ g) rfl D_Odds_asGreat_1.2.2.2 rfl
  have L8 : ∀ (h : HP) (s : Int × Int), (inL (s.1) ∧ inR (s.2)) → Z Y (m_Odds_asGreat_L8 o r1 h s) G0 h 8 [(0, vR ad o), (1, vR ad r1), (2, vL (s.1)), (4, vI (s.2))] [] := by
    intro h s hs
    refine z_loop (G := G0) (hO := fun s : Int × Int => h) (lO := fun s : Int × Int => [(0, vR ad o), (1, vR ad r1), (2, vL (s.1)), (4, vI (s.2))]) (Φ := fun s : Int × Int => inL (s.1) ∧ inR (s.2)) (fun G1 hin1_1 hout1 s hs => ?_) FUEL s hs
    obtain ⟨l2, x4⟩ := s
    obtain ⟨al2, ax4⟩ := hs
    have gk1 := fun (x : HP) (g : G1 (.inr (x))) => gk0 x (hout1 _ g)
    show Z Y (m_Odds_asGreat_L8b o r1 h l2 x4) G1 h 8 [(0, vR ad o), (1, vR ad r1), (2, vL l2), (4, vI x4)] []
    unfold m_Odds_asGreat_L8b
    refine z_s I (s_iload (pc' := 10) 3 rfl D_Odds_asGreat_0.1.2.1.2 rfl) ?_
    refine z_s I (s_bipush (pc' := 12) D_Odds_asGreat_0.1.2.2.1 rfl rfl) ?_
    refine z_icmp_gt (tgt := 31) (pc' := 15) I ax4 (inR_c (x := 32) rfl) D_Odds_asGreat_0.1.2.2.2 rfl rfl (fun c5 => ?_) (fun c5 => ?_)
    · refine z_map _ (fun x g => hout1 x g) ?_
      refine z_s I (s_lv (lv' := [(0, vR ad o), (1, vR ad r1), (2, vL l2)]) [0, 1, 2] rfl) ?_
      exact J31 _ al2 _
    · refine z_s I (s_lload_n (pc' := 16) 2 rfl D_Odds_asGreat_0.2.1.1.1 rfl rfl) ?_
      refine z_s I (s_aload_n (pc' := 17) 0 rfl D_Odds_asGreat_0.2.1.1.2 rfl rfl) ?_
      refine z_getR (pc' := 20) (eI := o + 2) I g_Odds_23 ao rfl (by omega) D_Odds_asGreat_0.2.1.2.1 rfl ?_
      have k6 : ok τ (1, 33) (o + 2) := r_Odds_ways hw ao (by omega)
      refine z_s I (s_iload (pc' := 22) 3 rfl D_Odds_asGreat_0.2.1.2.2 rfl) ?_
      refine z_lald (pc' := 23) (nI := 33) I k6 ax4 rfl D_Odds_asGreat_0.2.2.1.1 rfl (fun c7 f8 => ?_)
      refine z_s I (s_ladd (pc' := 24) D_Odds_asGreat_0.2.2.1.2 rfl) ?_
      refine z_bL (inL_w64 _) (fun v9 e10 f11 => ?_)
      refine z_s I (s_lstore_n (pc' := 25) (lv' := [(2, vL v9), (0, vR ad o), (1, vR ad r1), (4, vI x4)]) D_Odds_asGreat_0.2.2.2.1 rfl (by decide) rfl rfl) ?_
      refine z_s I (s_iinc (pc' := 28) (lv' := [(4, vI (w32 (x4 + 1))), (2, vL v9), (0, vR ad o), (1, vR ad r1)]) (n := 3) rfl D_Odds_asGreat_0.2.2.2.2 (by decide) rfl rfl) ?_
      refine z_s I (s_goto (tgt := 8) D_Odds_asGreat_1.1.1 rfl) ?_
      refine z_s I (s_lv (lv' := [(0, vR ad o), (1, vR ad r1), (2, vL v9), (4, vI (w32 (x4 + 1)))]) [2, 3, 1, 0] rfl) ?_
      exact z_end (fun g => hin1_1 _ g ⟨f11, (inR_w32 _)⟩)
  have main : Z Y (m_Odds_asGreat o r1 h) G0 h 0 [(0, vR ad o), (1, vR ad r1)] [] := by
    unfold m_Odds_asGreat
    refine z_s I (s_lconst (pc' := 1) (x := 0) D_Odds_asGreat_0.1.1.1.1 rfl rfl) ?_
    refine z_s I (s_lstore_n (pc' := 2) (lv' := [(2, vL 0), (0, vR ad o), (1, vR ad r1)]) D_Odds_asGreat_0.1.1.1.2 rfl (by decide) rfl rfl) ?_
    refine z_s I (s_aload_n (pc' := 3) 1 rfl D_Odds_asGreat_0.1.1.2.1 rfl rfl) ?_
    refine z_getI (pc' := 6) (jI := 5) I g_Odds_30 ao rfl rfl D_Odds_asGreat_0.1.1.2.2 rfl (fun f12 => ?_)
    refine z_bI f12 (fun v13 e14 f15 => ?_)
    refine z_s I (s_istore (pc' := 8) (lv' := [(4, vI v13), (2, vL 0), (0, vR ad o), (1, vR ad r1)]) D_Odds_asGreat_0.1.2.1.1 (by decide) rfl rfl) ?_
    refine z_s I (s_lv (lv' := [(0, vR ad o), (1, vR ad r1), (2, vL 0), (4, vI v13)]) [2, 3, 1, 0] rfl) ?_
    exact L8 _ _ ⟨(inL_c (x := 0) rfl), f15⟩
  exact main _ hF (by rw [hG0])
set_option maxHeartbeats 4000000 in
set_option maxRecDepth 20000 in
theorem c_Ratio_half {l : Launch} {τ : TP} {o : Int} {x1 : Int} {h : HP} {r : Int} (hw : wf τ) (ao : ok τ (4, 5) o) (ax1 : inR x1) (hh : hr τ h) (hF : m_Ratio_half o x1 h = some r) : Ctr l y_Ratio_half k_Ratio_half 2 (Option.some FieldType.long) 0 0 τ (fun ad => [vR ad o, vI x1]) h (some (vL r)) h (inL r) := by
  refine ctr_of (by decide) hw hh (fun ad => Nat.le_of_ble_eq_true rfl) (fun ad K Y I hK => ?_)
  obtain ⟨G0, hG0⟩ : ∃ G : Int → Prop, G = fun x => x = r := ⟨_, rfl⟩
  have gk0 : ∀ (x : Int), G0 x → inL x → K (some (vL x)) h := fun x g q => by
    rw [hG0] at g
    cases g
    exact hK q
  have main : Z Y (m_Ratio_half o x1 h) G0 h 0 [(0, vR ad o), (1, vI x1)] [] := by
    unfold m_Ratio_half
    refine z_s I (s_iload_n (pc' := 1) 1 rfl D_Ratio_half_0.1.1.1 rfl rfl) ?_
    refine z_if_ne (tgt := 11) (pc' := 4) I ax1 D_Ratio_half_0.1.1.2 rfl rfl (fun c1 => ?_) (fun c1 => ?_)
    · refine z_s I (s_aload_n (pc' := 12) 0 rfl D_Ratio_half_0.2.1.2 rfl rfl) ?_
      refine z_getL (pc' := 15) (jI := 1) I g_Ratio_13 ao rfl rfl D_Ratio_half_0.2.2.1 rfl (fun f2 => ?_)
      exact z_ret (w := some (vL (h o 1))) I (fun g => gk0 _ g f2) ⟨_, rfl⟩ D_Ratio_half_0.2.2.2 rfl
    · refine z_s I (s_aload_n (pc' := 5) 0 rfl D_Ratio_half_0.1.2.1 rfl rfl) ?_
      refine z_getL (pc' := 8) (jI := 0) I g_Ratio_7 ao rfl rfl D_Ratio_half_0.1.2.2 rfl (fun f3 => ?_)
      refine z_s I (s_goto (tgt := 15) D_Ratio_half_0.2.1.1 rfl) ?_
      exact z_ret (w := some (vL (h o 0))) I (fun g => gk0 _ g f3) ⟨_, rfl⟩ D_Ratio_half_0.2.2.2 rfl
  exact main _ hF (by rw [hG0])
set_option maxHeartbeats 4000000 in
set_option maxRecDepth 20000 in
theorem c_Cb_odds {l : Launch} {τ : TP} {o : Int} {x1 : Int} {x2 : Int} {x3 : Int} {x4 : Int} {h : HP} {r : Int} {h' : HP} (hw : wf τ) (ao : ok τ (4, 9) o) (ax1 : inR x1) (ax2 : inR x2) (ax3 : inR x3) (ax4 : inR x4) (hh : hr τ h) (hF : m_Cb_odds o x1 x2 x3 x4 h = some (r, h')) : Ctr l y_Cb_odds k_Cb_odds 5 (Option.some FieldType.long) 3 88 τ (fun ad => [vR ad o, vI x1, vI x2, vI x3, vI x4]) h (some (vL r)) h' (inL r) := by
  refine ctr_of (by decide) hw hh (fun ad => Nat.le_of_ble_eq_true rfl) (fun ad K Y I hK => ?_)
  obtain ⟨G0, hG0⟩ : ∃ G : Int × HP → Prop, G = fun x => x = (r, h') := ⟨_, rfl⟩
  have gk0 : ∀ (x : Int) (y : HP), G0 (x, y) → inL x → K (some (vL x)) y := fun x y g q => by
    rw [hG0] at g
    cases g
    exact hK q
  have main : Z Y (m_Cb_odds o x1 x2 x3 x4 h) G0 h 0 [(0, vR ad o), (1, vI x1), (2, vI x2), (3, vI x3), (4, vI x4)] [] := by
    unfold m_Cb_odds
    refine z_s I (s_aload_n (pc' := 1) 0 rfl D_Cb_odds_0.1.1.1.1 rfl rfl) ?_
    refine z_getR (pc' := 4) (eI := o + 1) I g_Cb_12 ao rfl (by omega) D_Cb_odds_0.1.1.1.2 rfl ?_
    have k1 : ok τ (4, 1) (o + 1) := r_Cb_now hw ao (by omega)
    refine z_s I (s_iload_n (pc' := 5) 1 rfl D_Cb_odds_0.1.1.2.1 rfl rfl) ?_
    refine z_s I (s_iload_n (pc' := 6) 2 rfl D_Cb_odds_0.1.1.2.2 rfl rfl) ?_
    refine z_b1 (fun r4 q3 => ?_)
    refine z_callV (pc' := 9) I mv_Exam_hasTwo ml_Cb_193 (fun ad => [vI x1, vI x2]) ⟨Nat.le_of_ble_eq_true rfl, Nat.le_of_ble_eq_true rfl⟩ k1 (fun hh => c_Exam_hasTwo hw k1 ax1 ax2 hh q3) rfl rfl (Nat.le_of_ble_eq_true rfl) D_Cb_odds_0.1.2.1.1 rfl (fun f2 => ?_)
    refine z_if_eq (tgt := 27) (pc' := 12) I (b01.R f2) D_Cb_odds_0.1.2.1.2 rfl rfl (fun c5 => ?_) (fun c5 => ?_)
    · refine z_ldc2 (pc' := 30) (x := (-9223372036854775808)) I cl_Cb_215 (by decide +kernel) D_Cb_odds_0.2.2.1.1 rfl ?_
      exact z_ret (w := some (vL (-9223372036854775808))) I (fun g => gk0 _ _ g (inL_c (x := (-9223372036854775808)) rfl)) ⟨_, rfl⟩ D_Cb_odds_0.2.2.1.2 rfl
    · refine z_s I (s_iload_n (pc' := 13) 3 rfl D_Cb_odds_0.1.2.2.1 rfl rfl) ?_
      refine z_b1 (fun r8 q7 => ?_)
      refine z_callS (pc' := 16) I mv_Cb_isSupposition ml_Cb_209 (fun ad => [vI x3]) ⟨Nat.le_of_ble_eq_true rfl, Nat.le_of_ble_eq_true rfl⟩ (fun hh => c_Cb_isSupposition hw ax3 hh q7) rfl rfl (Nat.le_of_ble_eq_true rfl) D_Cb_odds_0.1.2.2.2 rfl (fun f6 => ?_)
      refine z_if_eq (tgt := 27) (pc' := 19) I (b01.R f6) D_Cb_odds_0.2.1.1.1 rfl rfl (fun c9 => ?_) (fun c9 => ?_)
      · refine z_ldc2 (pc' := 30) (x := (-9223372036854775808)) I cl_Cb_215 (by decide +kernel) D_Cb_odds_0.2.2.1.1 rfl ?_
        exact z_ret (w := some (vL (-9223372036854775808))) I (fun g => gk0 _ _ g (inL_c (x := (-9223372036854775808)) rfl)) ⟨_, rfl⟩ D_Cb_odds_0.2.2.1.2 rfl
      · refine z_s I (s_iload (pc' := 21) 4 rfl D_Cb_odds_0.2.1.1.2 rfl) ?_
        refine z_b1 (fun r12 q11 => ?_)
        refine z_callS (pc' := 24) I mv_Cb_isPart ml_Cb_212 (fun ad => [vI x4]) ⟨Nat.le_of_ble_eq_true rfl, Nat.le_of_ble_eq_true rfl⟩ (fun hh => c_Cb_isPart hw ax4 hh q11) rfl rfl (Nat.le_of_ble_eq_true rfl) D_Cb_odds_0.2.1.2.1 rfl (fun f10 => ?_)
        refine z_if_ne (tgt := 31) (pc' := 27) I (b01.R f10) D_Cb_odds_0.2.1.2.2 rfl rfl (fun c13 => ?_) (fun c13 => ?_)
        · refine z_s I (s_aload_n (pc' := 32) 0 rfl D_Cb_odds_0.2.2.2.1 rfl rfl) ?_
          refine z_getR (pc' := 35) (eI := o + 94) I g_Cb_44 ao rfl (by omega) D_Cb_odds_0.2.2.2.2 rfl ?_
          have k14 : ok τ (4, 3) (o + 94) := r_Cb_odds hw ao (by omega)
          refine z_s I (s_aload_n (pc' := 36) 0 rfl D_Cb_odds_1.1.1.1.1 rfl rfl) ?_
          refine z_getR (pc' := 39) (eI := o + 1) I g_Cb_12 ao rfl (by omega) D_Cb_odds_1.1.1.1.2 rfl ?_
          have k15 : ok τ (4, 1) (o + 1) := r_Cb_now hw ao (by omega)
          refine z_s I (s_iload_n (pc' := 40) 1 rfl D_Cb_odds_1.1.1.2.1 rfl rfl) ?_
          refine z_s I (s_iload_n (pc' := 41) 2 rfl D_Cb_odds_1.1.1.2.2 rfl rfl) ?_
          refine z_s I (s_iload_n (pc' := 42) 3 rfl D_Cb_odds_1.1.2.1.1 rfl rfl) ?_
          refine z_s I (s_iconst (pc' := 43) D_Cb_odds_1.1.2.1.2 rfl) ?_
          refine z_b1 (fun h18 q17 => ?_)
          refine z_callV (pc' := 46) I mv_Odds_spread ml_Cb_217 (fun ad => [vR ad (o + 1), vI x1, vI x2, vI x3, vI (-1)]) ⟨Nat.le_of_ble_eq_true rfl, Nat.le_of_ble_eq_true rfl⟩ k14 (fun hh => c_Odds_spread hw k14 k15 ax1 ax2 ax3 (inR_c (x := (-1)) rfl) hh q17) rfl rfl (Nat.le_of_ble_eq_true rfl) D_Cb_odds_1.1.2.2.1 rfl (fun f16 => ?_)
          refine z_s I (s_aload_n (pc' := 47) 0 rfl D_Cb_odds_1.1.2.2.2 rfl rfl) ?_
          refine z_getR (pc' := 50) (eI := o + 94) I g_Cb_44 ao rfl (by omega) D_Cb_odds_1.2.1.1.1 rfl ?_
          have k19 : ok τ (4, 3) (o + 94) := r_Cb_odds hw ao (by omega)
          refine z_s I (s_aload_n (pc' := 51) 0 rfl D_Cb_odds_1.2.1.1.2 rfl rfl) ?_
          refine z_getR (pc' := 54) (eI := o + 97) I g_Cb_51 ao rfl (by omega) D_Cb_odds_1.2.1.2.1 rfl ?_
          have k20 : ok τ (4, 5) (o + 97) := r_Cb_first hw ao (by omega)
          refine z_b1 (fun h23 q22 => ?_)
          refine z_callV (pc' := 57) I mv_Odds_asGreat ml_Cb_221 (fun ad => [vR ad (o + 97)]) ⟨Nat.le_of_ble_eq_true rfl, Nat.le_of_ble_eq_true rfl⟩ k19 (fun hh => c_Odds_asGreat hw k19 k20 hh q22) rfl rfl (Nat.le_of_ble_eq_true rfl) D_Cb_odds_1.2.1.2.2 rfl (fun f21 => ?_)
          refine z_s I (s_aload_n (pc' := 58) 0 rfl D_Cb_odds_1.2.2.1.1 rfl rfl) ?_
          refine z_getR (pc' := 61) (eI := o + 97) I g_Cb_51 ao rfl (by omega) D_Cb_odds_1.2.2.1.2 rfl ?_
          have k24 : ok τ (4, 5) (o + 97) := r_Cb_first hw ao (by omega)
          refine z_s I (s_iload (pc' := 63) 4 rfl D_Cb_odds_1.2.2.2.1 rfl) ?_
          refine z_b1 (fun r27 q26 => ?_)
          refine z_callV (pc' := 66) I mv_Ratio_half ml_Cb_225 (fun ad => [vI x4]) ⟨Nat.le_of_ble_eq_true rfl, Nat.le_of_ble_eq_true rfl⟩ k24 (fun hh => c_Ratio_half hw k24 ax4 hh q26) rfl rfl (Nat.le_of_ble_eq_true rfl) D_Cb_odds_1.2.2.2.2 rfl (fun f25 => ?_)
          exact z_ret (w := some (vL r27)) I (fun g => gk0 _ _ g f25) ⟨_, rfl⟩ D_Cb_odds_2 rfl
        · refine z_ldc2 (pc' := 30) (x := (-9223372036854775808)) I cl_Cb_215 (by decide +kernel) D_Cb_odds_0.2.2.1.1 rfl ?_
          exact z_ret (w := some (vL (-9223372036854775808))) I (fun g => gk0 _ _ g (inL_c (x := (-9223372036854775808)) rfl)) ⟨_, rfl⟩ D_Cb_odds_0.2.2.1.2 rfl
  exact main _ hF (by rw [hG0])
set_option maxHeartbeats 4000000 in
set_option maxRecDepth 20000 in
theorem c_Odds_exactly {l : Launch} {τ : TP} {o : Int} {x1 : Int} {r2 : Int} {h : HP} {h' : HP} (hw : wf τ) (ao : ok τ (4, 3) o) (ax1 : inR x1) (ar2 : ok τ (4, 5) r2) (hh : hr τ h) (hF : m_Odds_exactly o x1 r2 h = some h') : Ctr l y_Odds_exactly k_Odds_exactly 3 (Option.none : Option FieldType) 2 52 τ (fun ad => [vR ad o, vI x1, vR ad r2]) h none h' (True) := by
  refine ctr_of (by decide) hw hh (fun ad => Nat.le_of_ble_eq_true rfl) (fun ad K Y I hK => ?_)
  obtain ⟨G0, hG0⟩ : ∃ G : HP → Prop, G = fun x => x = h' := ⟨_, rfl⟩
  have gk0 : ∀ (x : HP), G0 x → K none x := fun x g => by
    rw [hG0] at g
    cases g
    exact hK trivial
  have main : Z Y (m_Odds_exactly o x1 r2 h) G0 h 0 [(0, vR ad o), (1, vI x1), (2, vR ad r2)] [] := by
    unfold m_Odds_exactly
    refine z_s I (s_aload_n (pc' := 1) 2 rfl D_Odds_exactly_0.1.1.1 rfl rfl) ?_
    refine z_s I (s_aload_n (pc' := 2) 0 rfl D_Odds_exactly_0.1.1.2 rfl rfl) ?_
    refine z_getR (pc' := 5) (eI := o + 2) I g_Odds_23 ao rfl (by omega) D_Odds_exactly_0.1.2.1 rfl ?_
    have k1 : ok τ (1, 33) (o + 2) := r_Odds_ways hw ao (by omega)
    refine z_s I (s_iload_n (pc' := 6) 1 rfl D_Odds_exactly_0.1.2.2 rfl rfl) ?_
    refine z_lald (pc' := 7) (nI := 33) I k1 ax1 rfl D_Odds_exactly_0.2.1.1 rfl (fun c2 f3 => ?_)
    refine z_s I (s_aload_n (pc' := 8) 0 rfl D_Odds_exactly_0.2.1.2 rfl rfl) ?_
    refine z_getL (pc' := 11) (jI := 4) I g_Odds_27 ao rfl rfl D_Odds_exactly_0.2.2.1 rfl (fun f4 => ?_)
    refine z_b1 (fun h7 q6 => ?_)
    refine z_callV (pc' := 14) I mv_Ratio_put ml_Odds_79 (fun ad => [vL (h (o + 2) x1), vL (h o 4)]) ⟨Nat.le_of_ble_eq_true rfl, Nat.le_of_ble_eq_true rfl⟩ ar2 (fun hh => c_Ratio_put hw ar2 f3 f4 hh q6) rfl rfl (Nat.le_of_ble_eq_true rfl) D_Odds_exactly_0.2.2.2.1 rfl (fun f5 => ?_)
    exact z_ret (w := none) I (fun g => gk0 _ g) rfl D_Odds_exactly_0.2.2.2.2 rfl
  exact main _ hF (by rw [hG0])
set_option maxHeartbeats 4000000 in
set_option maxRecDepth 20000 in
theorem c_Cb_just {l : Launch} {τ : TP} {o : Int} {x1 : Int} {x2 : Int} {x3 : Int} {x4 : Int} {x5 : Int} {h : HP} {r : Int} {h' : HP} (hw : wf τ) (ao : ok τ (4, 9) o) (ax1 : inR x1) (ax2 : inR x2) (ax3 : inR x3) (ax4 : inR x4) (ax5 : inR x5) (hh : hr τ h) (hF : m_Cb_just o x1 x2 x3 x4 x5 h = some (r, h')) : Ctr l y_Cb_just k_Cb_just 6 (Option.some FieldType.long) 3 88 τ (fun ad => [vR ad o, vI x1, vI x2, vI x3, vI x4, vI x5]) h (some (vL r)) h' (inL r) := by
  refine ctr_of (by decide) hw hh (fun ad => Nat.le_of_ble_eq_true rfl) (fun ad K Y I hK => ?_)
  obtain ⟨G0, hG0⟩ : ∃ G : Int × HP → Prop, G = fun x => x = (r, h') := ⟨_, rfl⟩
  have gk0 : ∀ (x : Int) (y : HP), G0 (x, y) → inL x → K (some (vL x)) y := fun x y g q => by
    rw [hG0] at g
    cases g
    exact hK q
  have main : Z Y (m_Cb_just o x1 x2 x3 x4 x5 h) G0 h 0 [(0, vR ad o), (1, vI x1), (2, vI x2), (3, vI x3), (4, vI x4), (5, vI x5)] [] := by
    unfold m_Cb_just
    refine z_s I (s_aload_n (pc' := 1) 0 rfl D_Cb_just_0.1.1.1.1 rfl rfl) ?_
    refine z_getR (pc' := 4) (eI := o + 1) I g_Cb_12 ao rfl (by omega) D_Cb_just_0.1.1.1.2 rfl ?_
    have k1 : ok τ (4, 1) (o + 1) := r_Cb_now hw ao (by omega)
    refine z_s I (s_iload_n (pc' := 5) 1 rfl D_Cb_just_0.1.1.2.1 rfl rfl) ?_
    refine z_s I (s_iload_n (pc' := 6) 2 rfl D_Cb_just_0.1.1.2.2 rfl rfl) ?_
    refine z_b1 (fun r4 q3 => ?_)
    refine z_callV (pc' := 9) I mv_Exam_hasTwo ml_Cb_193 (fun ad => [vI x1, vI x2]) ⟨Nat.le_of_ble_eq_true rfl, Nat.le_of_ble_eq_true rfl⟩ k1 (fun hh => c_Exam_hasTwo hw k1 ax1 ax2 hh q3) rfl rfl (Nat.le_of_ble_eq_true rfl) D_Cb_just_0.1.2.1.1 rfl (fun f2 => ?_)
    refine z_if_eq (tgt := 39) (pc' := 12) I (b01.R f2) D_Cb_just_0.1.2.1.2 rfl rfl (fun c5 => ?_) (fun c5 => ?_)
    · refine z_ldc2 (pc' := 42) (x := (-9223372036854775808)) I cl_Cb_215 (by decide +kernel) D_Cb_just_1.1.1.1.2 rfl ?_
      exact z_ret (w := some (vL (-9223372036854775808))) I (fun g => gk0 _ _ g (inL_c (x := (-9223372036854775808)) rfl)) ⟨_, rfl⟩ D_Cb_just_1.1.1.2.1 rfl
    · refine z_s I (s_iload_n (pc' := 13) 3 rfl D_Cb_just_0.1.2.2.1 rfl rfl) ?_
      refine z_b1 (fun r8 q7 => ?_)
      refine z_callS (pc' := 16) I mv_Cb_isSupposition ml_Cb_209 (fun ad => [vI x3]) ⟨Nat.le_of_ble_eq_true rfl, Nat.le_of_ble_eq_true rfl⟩ (fun hh => c_Cb_isSupposition hw ax3 hh q7) rfl rfl (Nat.le_of_ble_eq_true rfl) D_Cb_just_0.1.2.2.2 rfl (fun f6 => ?_)
      refine z_if_eq (tgt := 39) (pc' := 19) I (b01.R f6) D_Cb_just_0.2.1.1.1 rfl rfl (fun c9 => ?_) (fun c9 => ?_)
      · refine z_ldc2 (pc' := 42) (x := (-9223372036854775808)) I cl_Cb_215 (by decide +kernel) D_Cb_just_1.1.1.1.2 rfl ?_
        exact z_ret (w := some (vL (-9223372036854775808))) I (fun g => gk0 _ _ g (inL_c (x := (-9223372036854775808)) rfl)) ⟨_, rfl⟩ D_Cb_just_1.1.1.2.1 rfl
      · refine z_s I (s_iload (pc' := 21) 4 rfl D_Cb_just_0.2.1.1.2 rfl) ?_
        refine z_if_lt (tgt := 39) (pc' := 24) I ax4 D_Cb_just_0.2.1.2.1 rfl rfl (fun c10 => ?_) (fun c10 => ?_)
        · refine z_ldc2 (pc' := 42) (x := (-9223372036854775808)) I cl_Cb_215 (by decide +kernel) D_Cb_just_1.1.1.1.2 rfl ?_
          exact z_ret (w := some (vL (-9223372036854775808))) I (fun g => gk0 _ _ g (inL_c (x := (-9223372036854775808)) rfl)) ⟨_, rfl⟩ D_Cb_just_1.1.1.2.1 rfl
        · refine z_s I (s_iload (pc' := 26) 4 rfl D_Cb_just_0.2.1.2.2 rfl) ?_
          refine z_s I (s_bipush (pc' := 28) D_Cb_just_0.2.2.1.1 rfl rfl) ?_
          refine z_icmp_gt (tgt := 39) (pc' := 31) I ax4 (inR_c (x := 32) rfl) D_Cb_just_0.2.2.1.2 rfl rfl (fun c11 => ?_) (fun c11 => ?_)
          · refine z_ldc2 (pc' := 42) (x := (-9223372036854775808)) I cl_Cb_215 (by decide +kernel) D_Cb_just_1.1.1.1.2 rfl ?_
            exact z_ret (w := some (vL (-9223372036854775808))) I (fun g => gk0 _ _ g (inL_c (x := (-9223372036854775808)) rfl)) ⟨_, rfl⟩ D_Cb_just_1.1.1.2.1 rfl
          · refine z_s I (s_iload (pc' := 33) 5 rfl D_Cb_just_0.2.2.2.1 rfl) ?_
            refine z_b1 (fun r14 q13 => ?_)
            refine z_callS (pc' := 36) I mv_Cb_isPart ml_Cb_212 (fun ad => [vI x5]) ⟨Nat.le_of_ble_eq_true rfl, Nat.le_of_ble_eq_true rfl⟩ (fun hh => c_Cb_isPart hw ax5 hh q13) rfl rfl (Nat.le_of_ble_eq_true rfl) D_Cb_just_0.2.2.2.2 rfl (fun f12 => ?_)
            refine z_if_ne (tgt := 43) (pc' := 39) I (b01.R f12) D_Cb_just_1.1.1.1.1 rfl rfl (fun c15 => ?_) (fun c15 => ?_)
            · refine z_s I (s_aload_n (pc' := 44) 0 rfl D_Cb_just_1.1.1.2.2 rfl rfl) ?_
              refine z_getR (pc' := 47) (eI := o + 94) I g_Cb_44 ao rfl (by omega) D_Cb_just_1.1.2.1.1 rfl ?_
              have k16 : ok τ (4, 3) (o + 94) := r_Cb_odds hw ao (by omega)
              refine z_s I (s_aload_n (pc' := 48) 0 rfl D_Cb_just_1.1.2.1.2 rfl rfl) ?_
              refine z_getR (pc' := 51) (eI := o + 1) I g_Cb_12 ao rfl (by omega) D_Cb_just_1.1.2.2.1 rfl ?_
              have k17 : ok τ (4, 1) (o + 1) := r_Cb_now hw ao (by omega)
              refine z_s I (s_iload_n (pc' := 52) 1 rfl D_Cb_just_1.1.2.2.2 rfl rfl) ?_
              refine z_s I (s_iload_n (pc' := 53) 2 rfl D_Cb_just_1.2.1.1.1 rfl rfl) ?_
              refine z_s I (s_iload_n (pc' := 54) 3 rfl D_Cb_just_1.2.1.1.2 rfl rfl) ?_
              refine z_s I (s_iconst (pc' := 55) D_Cb_just_1.2.1.2.1 rfl) ?_
              refine z_b1 (fun h20 q19 => ?_)
              refine z_callV (pc' := 58) I mv_Odds_spread ml_Cb_217 (fun ad => [vR ad (o + 1), vI x1, vI x2, vI x3, vI (-1)]) ⟨Nat.le_of_ble_eq_true rfl, Nat.le_of_ble_eq_true rfl⟩ k16 (fun hh => c_Odds_spread hw k16 k17 ax1 ax2 ax3 (inR_c (x := (-1)) rfl) hh q19) rfl rfl (Nat.le_of_ble_eq_true rfl) D_Cb_just_1.2.1.2.2 rfl (fun f18 => ?_)
              refine z_s I (s_aload_n (pc' := 59) 0 rfl D_Cb_just_1.2.2.1.1 rfl rfl) ?_
              refine z_getR (pc' := 62) (eI := o + 94) I g_Cb_44 ao rfl (by omega) D_Cb_just_1.2.2.1.2 rfl ?_
              have k21 : ok τ (4, 3) (o + 94) := r_Cb_odds hw ao (by omega)
              refine z_s I (s_iload (pc' := 64) 4 rfl D_Cb_just_1.2.2.2.1 rfl) ?_
              refine z_s I (s_aload_n (pc' := 65) 0 rfl D_Cb_just_1.2.2.2.2 rfl rfl) ?_
              refine z_getR (pc' := 68) (eI := o + 97) I g_Cb_51 ao rfl (by omega) D_Cb_just_2.1.1 rfl ?_
              have k22 : ok τ (4, 5) (o + 97) := r_Cb_first hw ao (by omega)
              refine z_b1 (fun h25 q24 => ?_)
              refine z_callV (pc' := 71) I mv_Odds_exactly ml_Cb_229 (fun ad => [vI x4, vR ad (o + 97)]) ⟨Nat.le_of_ble_eq_true rfl, Nat.le_of_ble_eq_true rfl⟩ k21 (fun hh => c_Odds_exactly hw k21 ax4 k22 hh q24) rfl rfl (Nat.le_of_ble_eq_true rfl) D_Cb_just_2.1.2.1 rfl (fun f23 => ?_)
              refine z_s I (s_aload_n (pc' := 72) 0 rfl D_Cb_just_2.1.2.2 rfl rfl) ?_
              refine z_getR (pc' := 75) (eI := o + 97) I g_Cb_51 ao rfl (by omega) D_Cb_just_2.2.1.1 rfl ?_
              have k26 : ok τ (4, 5) (o + 97) := r_Cb_first hw ao (by omega)
              refine z_s I (s_iload (pc' := 77) 5 rfl D_Cb_just_2.2.1.2 rfl) ?_
              refine z_b1 (fun r29 q28 => ?_)
              refine z_callV (pc' := 80) I mv_Ratio_half ml_Cb_225 (fun ad => [vI x5]) ⟨Nat.le_of_ble_eq_true rfl, Nat.le_of_ble_eq_true rfl⟩ k26 (fun hh => c_Ratio_half hw k26 ax5 hh q28) rfl rfl (Nat.le_of_ble_eq_true rfl) D_Cb_just_2.2.2.1 rfl (fun f27 => ?_)
              exact z_ret (w := some (vL r29)) I (fun g => gk0 _ _ g f27) ⟨_, rfl⟩ D_Cb_just_2.2.2.2 rfl
            · refine z_ldc2 (pc' := 42) (x := (-9223372036854775808)) I cl_Cb_215 (by decide +kernel) D_Cb_just_1.1.1.1.2 rfl ?_
              exact z_ret (w := some (vL (-9223372036854775808))) I (fun g => gk0 _ _ g (inL_c (x := (-9223372036854775808)) rfl)) ⟨_, rfl⟩ D_Cb_just_1.1.1.2.1 rfl
  exact main _ hF (by rw [hG0])
set_option maxHeartbeats 4000000 in
set_option maxRecDepth 20000 in
theorem c_Ratio_compare {l : Launch} {τ : TP} {l0 : Int} {l2 : Int} {l4 : Int} {l6 : Int} {h : HP} {r : Int} (hw : wf τ) (al0 : inL l0) (al2 : inL l2) (al4 : inL l4) (al6 : inL l6) (hh : hr τ h) (hF : m_Ratio_compare l0 l2 l4 l6 h = some r) : Ctr l y_Ratio_compare k_Ratio_compare 18 (Option.some FieldType.int) 0 0 τ (fun ad => [vL l0, vL l2, vL l4, vL l6]) h (some (vI r)) h (inR r) := by
  refine ctr_of (by decide) hw hh (fun ad => Nat.le_of_ble_eq_true rfl) (fun ad K Y I hK => ?_)
  obtain ⟨G0, hG0⟩ : ∃ G : Int → Prop, G = fun x => x = r := ⟨_, rfl⟩
  have gk0 : ∀ (x : Int), G0 x → inR x → K (some (vI x)) h := fun x g q => by
    rw [hG0] at g
    cases g
    exact hK q
  have J121 : ∀ (l2 : Int) (al2 : inL l2) (x8 : Int) (ax8 : inR x8), Z Y (m_Ratio_compare_J121 l2 x8 h) G0 h 121 [(2, vL l2), (8, vI x8)] [] := by
    intro l2 al2 x8 ax8
    unfold m_Ratio_compare_J121
    refine z_s I (s_lload_n (pc' := 122) 0 rfl D_Ratio_compare_4.1.2.2.2 rfl rfl) ?_
    refine z_s I (s_lconst (pc' := 123) (x := 0) D_Ratio_compare_4.2.1.1.1 rfl rfl) ?_
    refine z_s I (s_lcmp (pc' := 124) al2 (inL_c (x := 0) rfl) D_Ratio_compare_4.2.1.1.2 rfl) ?_
    refine z_if_ne (tgt := 132) (pc' := 127) I (inR_lCmp _ _) D_Ratio_compare_4.2.1.2.1 rfl rfl (fun c1 => ?_) (fun c1 => ?_)
    · refine z_s I (s_iload (pc' := 134) 1 rfl D_Ratio_compare_4.2.2.1.2 rfl) ?_
      refine z_s I (s_ineg (pc' := 135) D_Ratio_compare_4.2.2.2.1 rfl) ?_
      exact z_ret (w := some (vI (w32 (-x8)))) I (fun g => gk0 _ g (inR_w32 _)) ⟨_, rfl⟩ D_Ratio_compare_4.2.2.2.2 rfl
    · refine z_s I (s_iload (pc' := 129) 1 rfl D_Ratio_compare_4.2.1.2.2 rfl) ?_
      refine z_s I (s_goto (tgt := 135) D_Ratio_compare_4.2.2.1.1 rfl) ?_
      exact z_ret (w := some (vI x8)) I (fun g => gk0 _ g ax8) ⟨_, rfl⟩ D_Ratio_compare_4.2.2.2.2 rfl
  have J106 : ∀ (l2 : Int) (al2 : inL l2) (l6 : Int) (al6 : inL l6) (x8 : Int) (ax8 : inR x8), Z Y (m_Ratio_compare_J106 l2 l6 x8 h) G0 h 106 [(2, vL l2), (6, vL l6), (8, vI x8)] [] := by
    intro l2 al2 l6 al6 x8 ax8
    unfold m_Ratio_compare_J106
    refine z_s I (s_lload_n (pc' := 107) 0 rfl D_Ratio_compare_3.2.2.1.2 rfl rfl) ?_
    refine z_s I (s_lconst (pc' := 108) (x := 0) D_Ratio_compare_3.2.2.2.1 rfl rfl) ?_
    refine z_s I (s_lcmp (pc' := 109) al2 (inL_c (x := 0) rfl) D_Ratio_compare_3.2.2.2.2 rfl) ?_
    refine z_if_ne (tgt := 121) (pc' := 112) I (inR_lCmp _ _) D_Ratio_compare_4.1.1.1.1 rfl rfl (fun c2 => ?_) (fun c2 => ?_)
    · refine z_s I (s_lv (lv' := [(2, vL l2), (8, vI x8)]) [0, 2] rfl) ?_
      exact J121 _ al2 _ ax8
    · refine z_s I (s_lload (pc' := 114) 1 rfl D_Ratio_compare_4.1.1.1.2 rfl) ?_
      refine z_s I (s_lconst (pc' := 115) (x := 0) D_Ratio_compare_4.1.1.2.1 rfl rfl) ?_
      refine z_s I (s_lcmp (pc' := 116) al6 (inL_c (x := 0) rfl) D_Ratio_compare_4.1.1.2.2 rfl) ?_
      refine z_if_ne (tgt := 121) (pc' := 119) I (inR_lCmp _ _) D_Ratio_compare_4.1.2.1.1 rfl rfl (fun c3 => ?_) (fun c3 => ?_)
      · refine z_s I (s_lv (lv' := [(2, vL l2), (8, vI x8)]) [0, 2] rfl) ?_
        exact J121 _ al2 _ ax8
      · refine z_s I (s_iconst (pc' := 120) D_Ratio_compare_4.1.2.1.2 rfl) ?_
        exact z_ret (w := some (vI 0)) I (fun g => gk0 _ g (b01.R bz0)) ⟨_, rfl⟩ D_Ratio_compare_4.1.2.2.1 rfl
  have J47 : ∀ (x8 : Int) (ax8 : inR x8) (l10 : Int) (al10 : inL l10) (l12 : Int) (al12 : inL l12), Z Y (m_Ratio_compare_J47 x8 l10 l12 h) G0 h 47 [(8, vI x8), (10, vL l10), (12, vL l12)] [] := by
    intro x8 ax8 l10 al10 l12 al12
    unfold m_Ratio_compare_J47
    refine z_s I (s_lload (pc' := 49) 1 rfl D_Ratio_compare_1.2.1.2.2 rfl) ?_
    refine z_s I (s_lload (pc' := 51) 2 rfl D_Ratio_compare_1.2.2.1.1 rfl) ?_
    refine z_s I (s_lcmp (pc' := 52) al10 al12 D_Ratio_compare_1.2.2.1.2 rfl) ?_
    refine z_if_ge (tgt := 61) (pc' := 55) I (inR_lCmp _ _) D_Ratio_compare_1.2.2.2.1 rfl rfl (fun c4 => ?_) (fun c4 => ?_)
    · refine z_s I (s_iload (pc' := 63) 0 rfl D_Ratio_compare_2.1.1.2.1 rfl) ?_
      exact z_ret (w := some (vI x8)) I (fun g => gk0 _ g ax8) ⟨_, rfl⟩ D_Ratio_compare_2.1.1.2.2 rfl
    · refine z_s I (s_iload (pc' := 57) 0 rfl D_Ratio_compare_1.2.2.2.2 rfl) ?_
      refine z_s I (s_ineg (pc' := 58) D_Ratio_compare_2.1.1.1.1 rfl) ?_
      refine z_s I (s_goto (tgt := 63) D_Ratio_compare_2.1.1.1.2 rfl) ?_
      exact z_ret (w := some (vI (w32 (-x8)))) I (fun g => gk0 _ g (inR_w32 _)) ⟨_, rfl⟩ D_Ratio_compare_2.1.1.2.2 rfl
  have L6 : ∀ (s : Int × Int × Int × Int × Int × Int), (inL (s.1) ∧ inL (s.2.1) ∧ inL (s.2.2.1) ∧ inL (s.2.2.2.1) ∧ inR (s.2.2.2.2.1) ∧ inR (s.2.2.2.2.2)) → Z Y (m_Ratio_compare_L6 h s) G0 h 6 [(0, vL (s.1)), (2, vL (s.2.1)), (4, vL (s.2.2.1)), (6, vL (s.2.2.2.1)), (8, vI (s.2.2.2.2.1)), (9, vI (s.2.2.2.2.2))] [] := by
    intro s hs
    refine z_loop (G := G0) (hO := fun s : Int × Int × Int × Int × Int × Int => h) (lO := fun s : Int × Int × Int × Int × Int × Int => [(0, vL (s.1)), (2, vL (s.2.1)), (4, vL (s.2.2.1)), (6, vL (s.2.2.2.1)), (8, vI (s.2.2.2.2.1)), (9, vI (s.2.2.2.2.2))]) (Φ := fun s : Int × Int × Int × Int × Int × Int => inL (s.1) ∧ inL (s.2.1) ∧ inL (s.2.2.1) ∧ inL (s.2.2.2.1) ∧ inR (s.2.2.2.2.1) ∧ inR (s.2.2.2.2.2)) (fun G1 hin1_1 hout1 s hs => ?_) FUEL s hs
    obtain ⟨l0, l2, l4, l6, x8, x9⟩ := s
    obtain ⟨al0, al2, al4, al6, ax8, ax9⟩ := hs
    have gk1 := fun (x : Int) (g : G1 (.inr (x))) (q : inR x) => gk0 x (hout1 _ g) q
    show Z Y (m_Ratio_compare_L6b h l0 l2 l4 l6 x8 x9) G1 h 6 [(0, vL l0), (2, vL l2), (4, vL l4), (6, vL l6), (8, vI x8), (9, vI x9)] []
    unfold m_Ratio_compare_L6b
    refine z_s I (s_iload (pc' := 8) 5 rfl D_Ratio_compare_0.1.2.1.1 rfl) ?_
    refine z_s I (s_sipush (pc' := 11) D_Ratio_compare_0.1.2.1.2 rfl rfl) ?_
    refine z_icmp_ge (tgt := 106) (pc' := 14) I ax9 (inR_c (x := 1000) rfl) D_Ratio_compare_0.1.2.2.1 rfl rfl (fun c5 => ?_) (fun c5 => ?_)
    · refine z_map _ (fun x g => hout1 x g) ?_
      refine z_s I (s_lv (lv' := [(2, vL l2), (6, vL l6), (8, vI x8)]) [1, 3, 4] rfl) ?_
      exact J106 _ al2 _ al6 _ ax8
    · refine z_s I (s_lload_n (pc' := 15) 1 rfl D_Ratio_compare_0.1.2.2.2 rfl rfl) ?_
      refine z_s I (s_lconst (pc' := 16) (x := 0) D_Ratio_compare_0.2.1.1.1 rfl rfl) ?_
      refine z_s I (s_lcmp (pc' := 17) al2 (inL_c (x := 0) rfl) D_Ratio_compare_0.2.1.1.2 rfl) ?_
      refine z_if_eq (tgt := 106) (pc' := 20) I (inR_lCmp _ _) D_Ratio_compare_0.2.1.2.1 rfl rfl (fun c6 => ?_) (fun c6 => ?_)
      · refine z_map _ (fun x g => hout1 x g) ?_
        refine z_s I (s_lv (lv' := [(2, vL l2), (6, vL l6), (8, vI x8)]) [1, 3, 4] rfl) ?_
        exact J106 _ al2 _ al6 _ ax8
      · refine z_s I (s_lload (pc' := 22) 3 rfl D_Ratio_compare_0.2.1.2.2 rfl) ?_
        refine z_s I (s_lconst (pc' := 23) (x := 0) D_Ratio_compare_0.2.2.1.1 rfl rfl) ?_
        refine z_s I (s_lcmp (pc' := 24) al6 (inL_c (x := 0) rfl) D_Ratio_compare_0.2.2.1.2 rfl) ?_
        refine z_if_eq (tgt := 106) (pc' := 27) I (inR_lCmp _ _) D_Ratio_compare_0.2.2.2.1 rfl rfl (fun c7 => ?_) (fun c7 => ?_)
        · refine z_map _ (fun x g => hout1 x g) ?_
          refine z_s I (s_lv (lv' := [(2, vL l2), (6, vL l6), (8, vI x8)]) [1, 3, 4] rfl) ?_
          exact J106 _ al2 _ al6 _ ax8
        · refine z_s I (s_lload_n (pc' := 28) 0 rfl D_Ratio_compare_0.2.2.2.2 rfl rfl) ?_
          refine z_s I (s_lload_n (pc' := 29) 1 rfl D_Ratio_compare_1.1.1.1.1 rfl rfl) ?_
          refine z_ldiv (pc' := 30) I al2 D_Ratio_compare_1.1.1.1.2 rfl (fun c8 => ?_)
          refine z_bL (r_lDiv _ _) (fun v9 e10 f11 => ?_)
          refine z_s I (s_lstore (pc' := 32) (lv' := [(10, vL v9), (0, vL l0), (2, vL l2), (4, vL l4), (6, vL l6), (8, vI x8), (9, vI x9)]) D_Ratio_compare_1.1.1.2.1 (by decide) rfl rfl) ?_
          refine z_s I (s_lload (pc' := 34) 3 rfl D_Ratio_compare_1.1.1.2.2 rfl) ?_
          refine z_s I (s_lload (pc' := 36) 4 rfl D_Ratio_compare_1.1.2.1.1 rfl) ?_
          refine z_ldiv (pc' := 37) I al6 D_Ratio_compare_1.1.2.1.2 rfl (fun c12 => ?_)
          refine z_bL (r_lDiv _ _) (fun v13 e14 f15 => ?_)
          refine z_s I (s_lstore (pc' := 39) (lv' := [(12, vL v13), (10, vL v9), (0, vL l0), (2, vL l2), (4, vL l4), (6, vL l6), (8, vI x8), (9, vI x9)]) D_Ratio_compare_1.1.2.2.1 (by decide) rfl rfl) ?_
          refine z_s I (s_lload (pc' := 41) 1 rfl D_Ratio_compare_1.1.2.2.2 rfl) ?_
          refine z_s I (s_lload (pc' := 43) 0 rfl D_Ratio_compare_1.2.1.1.1 rfl) ?_
          refine z_s I (s_lcmp (pc' := 44) f11 f15 D_Ratio_compare_1.2.1.1.2 rfl) ?_
          refine z_if_eq (tgt := 64) (pc' := 47) I (inR_lCmp _ _) D_Ratio_compare_1.2.1.2.1 rfl rfl (fun c16 => ?_) (fun c16 => ?_)
          · refine z_s I (s_lload_n (pc' := 65) 2 rfl D_Ratio_compare_2.1.2.1.1 rfl rfl) ?_
            refine z_s I (s_lload (pc' := 67) 1 rfl D_Ratio_compare_2.1.2.1.2 rfl) ?_
            refine z_s I (s_lload_n (pc' := 68) 3 rfl D_Ratio_compare_2.1.2.2.1 rfl rfl) ?_
            refine z_s I (s_lmul (pc' := 69) D_Ratio_compare_2.1.2.2.2 rfl) ?_
            refine z_s I (s_lsub (pc' := 70) D_Ratio_compare_2.2.1.1.1 rfl) ?_
            refine z_bL (inL_w64 _) (fun v17 e18 f19 => ?_)
            refine z_s I (s_lstore (pc' := 72) (lv' := [(14, vL v17), (12, vL v13), (10, vL v9), (0, vL l0), (2, vL l2), (4, vL l4), (6, vL l6), (8, vI x8), (9, vI x9)]) D_Ratio_compare_2.2.1.1.2 (by decide) rfl rfl) ?_
            refine z_s I (s_lload (pc' := 74) 5 rfl D_Ratio_compare_2.2.1.2.1 rfl) ?_
            refine z_s I (s_lload (pc' := 76) 1 rfl D_Ratio_compare_2.2.1.2.2 rfl) ?_
            refine z_s I (s_lload (pc' := 78) 6 rfl D_Ratio_compare_2.2.2.1.1 rfl) ?_
            refine z_s I (s_lmul (pc' := 79) D_Ratio_compare_2.2.2.1.2 rfl) ?_
            refine z_s I (s_lsub (pc' := 80) D_Ratio_compare_2.2.2.2.1 rfl) ?_
            refine z_bL (inL_w64 _) (fun v20 e21 f22 => ?_)
            refine z_s I (s_lstore (pc' := 82) (lv' := [(16, vL v20), (14, vL v17), (12, vL v13), (10, vL v9), (0, vL l0), (2, vL l2), (4, vL l4), (6, vL l6), (8, vI x8), (9, vI x9)]) D_Ratio_compare_2.2.2.2.2 (by decide) rfl rfl) ?_
            refine z_s I (s_lload_n (pc' := 83) 5 rfl D_Ratio_compare_3.1.1.1.1 rfl rfl) ?_
            refine z_s I (s_lstore_n (pc' := 84) (lv' := [(0, vL l2), (16, vL v20), (14, vL v17), (12, vL v13), (10, vL v9), (2, vL l2), (4, vL l4), (6, vL l6), (8, vI x8), (9, vI x9)]) D_Ratio_compare_3.1.1.1.2 rfl (by decide) rfl rfl) ?_
            refine z_s I (s_lload (pc' := 86) 2 rfl D_Ratio_compare_3.1.1.2.1 rfl) ?_
            refine z_s I (s_lstore_n (pc' := 87) (lv' := [(2, vL v17), (0, vL l2), (16, vL v20), (14, vL v17), (12, vL v13), (10, vL v9), (4, vL l4), (6, vL l6), (8, vI x8), (9, vI x9)]) D_Ratio_compare_3.1.1.2.2 rfl (by decide) rfl rfl) ?_
            refine z_s I (s_lload (pc' := 89) 7 rfl D_Ratio_compare_3.1.2.1.1 rfl) ?_
            refine z_s I (s_lstore (pc' := 91) (lv' := [(4, vL l6), (2, vL v17), (0, vL l2), (16, vL v20), (14, vL v17), (12, vL v13), (10, vL v9), (6, vL l6), (8, vI x8), (9, vI x9)]) D_Ratio_compare_3.1.2.1.2 (by decide) rfl rfl) ?_
            refine z_s I (s_lload (pc' := 93) 3 rfl D_Ratio_compare_3.1.2.2.1 rfl) ?_
            refine z_s I (s_lstore (pc' := 95) (lv' := [(6, vL v20), (4, vL l6), (2, vL v17), (0, vL l2), (16, vL v20), (14, vL v17), (12, vL v13), (10, vL v9), (8, vI x8), (9, vI x9)]) D_Ratio_compare_3.1.2.2.2 (by decide) rfl rfl) ?_
            refine z_s I (s_iload (pc' := 97) 8 rfl D_Ratio_compare_3.2.1.1.1 rfl) ?_
            refine z_s I (s_ineg (pc' := 98) D_Ratio_compare_3.2.1.1.2 rfl) ?_
            refine z_bI (inR_w32 _) (fun v23 e24 f25 => ?_)
            refine z_s I (s_istore (pc' := 100) (lv' := [(8, vI v23), (6, vL v20), (4, vL l6), (2, vL v17), (0, vL l2), (16, vL v20), (14, vL v17), (12, vL v13), (10, vL v9), (9, vI x9)]) D_Ratio_compare_3.2.1.2.1 (by decide) rfl rfl) ?_
            refine z_s I (s_iinc (pc' := 103) (lv' := [(9, vI (w32 (x9 + 1))), (8, vI v23), (6, vL v20), (4, vL l6), (2, vL v17), (0, vL l2), (16, vL v20), (14, vL v17), (12, vL v13), (10, vL v9)]) (n := 9) rfl D_Ratio_compare_3.2.1.2.2 (by decide) rfl rfl) ?_
            refine z_s I (s_goto (tgt := 6) D_Ratio_compare_3.2.2.1.1 rfl) ?_
            refine z_s I (s_lv (lv' := [(0, vL l2), (2, vL v17), (4, vL l6), (6, vL v20), (8, vI v23), (9, vI (w32 (x9 + 1)))]) [5, 4, 3, 2, 1, 0] rfl) ?_
            exact z_end (fun g => hin1_1 _ g ⟨al2, f19, al6, f22, f25, (inR_w32 _)⟩)
          · refine z_map _ (fun x g => hout1 x g) ?_
            refine z_s I (s_lv (lv' := [(8, vI x8), (10, vL v9), (12, vL v13)]) [6, 1, 0] rfl) ?_
            exact J47 _ ax8 _ f11 _ f15
  have main : Z Y (m_Ratio_compare l0 l2 l4 l6 h) G0 h 0 [(0, vL l0), (2, vL l2), (4, vL l4), (6, vL l6)] [] := by
    unfold m_Ratio_compare
    refine z_s I (s_iconst (pc' := 1) D_Ratio_compare_0.1.1.1.1 rfl) ?_
    refine z_s I (s_istore (pc' := 3) (lv' := [(8, vI 1), (0, vL l0), (2, vL l2), (4, vL l4), (6, vL l6)]) D_Ratio_compare_0.1.1.1.2 (by decide) rfl rfl) ?_
    refine z_s I (s_iconst (pc' := 4) D_Ratio_compare_0.1.1.2.1 rfl) ?_
    refine z_s I (s_istore (pc' := 6) (lv' := [(9, vI 0), (8, vI 1), (0, vL l0), (2, vL l2), (4, vL l4), (6, vL l6)]) D_Ratio_compare_0.1.1.2.2 (by decide) rfl rfl) ?_
    refine z_s I (s_lv (lv' := [(0, vL l0), (2, vL l2), (4, vL l4), (6, vL l6), (8, vI 1), (9, vI 0)]) [2, 3, 4, 5, 1, 0] rfl) ?_
    exact L6 _ ⟨al0, al2, al4, al6, (b01.R bz1), (b01.R bz0)⟩
  exact main _ hF (by rw [hG0])
set_option maxHeartbeats 4000000 in
set_option maxRecDepth 20000 in
theorem c_Ratio_against {l : Launch} {τ : TP} {o : Int} {r1 : Int} {h : HP} {r : Int} (hw : wf τ) (ao : ok τ (4, 5) o) (ar1 : ok τ (4, 5) r1) (hh : hr τ h) (hF : m_Ratio_against o r1 h = some r) : Ctr l y_Ratio_against k_Ratio_against 2 (Option.some FieldType.int) 1 37 τ (fun ad => [vR ad o, vR ad r1]) h (some (vI r)) h (inR r) := by
  refine ctr_of (by decide) hw hh (fun ad => Nat.le_of_ble_eq_true rfl) (fun ad K Y I hK => ?_)
  obtain ⟨G0, hG0⟩ : ∃ G : Int → Prop, G = fun x => x = r := ⟨_, rfl⟩
  have gk0 : ∀ (x : Int), G0 x → inR x → K (some (vI x)) h := fun x g q => by
    rw [hG0] at g
    cases g
    exact hK q
  have main : Z Y (m_Ratio_against o r1 h) G0 h 0 [(0, vR ad o), (1, vR ad r1)] [] := by
    unfold m_Ratio_against
    refine z_s I (s_aload_n (pc' := 1) 0 rfl D_Ratio_against_0.1.1.1 rfl rfl) ?_
    refine z_getL (pc' := 4) (jI := 0) I g_Ratio_7 ao rfl rfl D_Ratio_against_0.1.1.2 rfl (fun f1 => ?_)
    refine z_s I (s_aload_n (pc' := 5) 0 rfl D_Ratio_against_0.1.2.1 rfl rfl) ?_
    refine z_getL (pc' := 8) (jI := 1) I g_Ratio_13 ao rfl rfl D_Ratio_against_0.1.2.2.1 rfl (fun f2 => ?_)
    refine z_s I (s_aload_n (pc' := 9) 1 rfl D_Ratio_against_0.1.2.2.2 rfl rfl) ?_
    refine z_getL (pc' := 12) (jI := 0) I g_Ratio_7 ar1 rfl rfl D_Ratio_against_0.2.1.1 rfl (fun f3 => ?_)
    refine z_s I (s_aload_n (pc' := 13) 1 rfl D_Ratio_against_0.2.1.2 rfl rfl) ?_
    refine z_getL (pc' := 16) (jI := 1) I g_Ratio_13 ar1 rfl rfl D_Ratio_against_0.2.2.1 rfl (fun f4 => ?_)
    refine z_b1 (fun r7 q6 => ?_)
    refine z_callS (pc' := 19) I mv_Ratio_compare ml_Ratio_20 (fun ad => [vL (h o 0), vL (h o 1), vL (h r1 0), vL (h r1 1)]) ⟨Nat.le_of_ble_eq_true rfl, Nat.le_of_ble_eq_true rfl⟩ (fun hh => c_Ratio_compare hw f1 f2 f3 f4 hh q6) rfl rfl (Nat.le_of_ble_eq_true rfl) D_Ratio_against_0.2.2.2.1 rfl (fun f5 => ?_)
    exact z_ret (w := some (vI r7)) I (fun g => gk0 _ g f5) ⟨_, rfl⟩ D_Ratio_against_0.2.2.2.2 rfl
  exact main _ hF (by rw [hG0])
set_option maxHeartbeats 4000000 in
set_option maxRecDepth 20000 in
theorem c_Cb_source {l : Launch} {τ : TP} {o : Int} {x1 : Int} {x2 : Int} {h : HP} {r : Int} {h' : HP} (hw : wf τ) (ao : ok τ (4, 9) o) (ax1 : inR x1) (ax2 : inR x2) (hh : hr τ h) (hF : m_Cb_source o x1 x2 h = some (r, h')) : Ctr l y_Cb_source k_Cb_source 4 (Option.some FieldType.int) 3 88 τ (fun ad => [vR ad o, vI x1, vI x2]) h (some (vI r)) h' (inR r) := by
  refine ctr_of (by decide) hw hh (fun ad => Nat.le_of_ble_eq_true rfl) (fun ad K Y I hK => ?_)
  obtain ⟨G0, hG0⟩ : ∃ G : Int × HP → Prop, G = fun x => x = (r, h') := ⟨_, rfl⟩
  have gk0 : ∀ (x : Int) (y : HP), G0 (x, y) → inR x → K (some (vI x)) y := fun x y g q => by
    rw [hG0] at g
    cases g
    exact hK q
  have main : Z Y (m_Cb_source o x1 x2 h) G0 h 0 [(0, vR ad o), (1, vI x1), (2, vI x2)] [] := by
    unfold m_Cb_source
    refine z_s I (s_aload_n (pc' := 1) 0 rfl D_Cb_source_0.1.1.1.1 rfl rfl) ?_
    refine z_getR (pc' := 4) (eI := o + 1) I g_Cb_12 ao rfl (by omega) D_Cb_source_0.1.1.1.2 rfl ?_
    have k1 : ok τ (4, 1) (o + 1) := r_Cb_now hw ao (by omega)
    refine z_s I (s_iload_n (pc' := 5) 1 rfl D_Cb_source_0.1.1.2.1 rfl rfl) ?_
    refine z_s I (s_iload_n (pc' := 6) 2 rfl D_Cb_source_0.1.1.2.2 rfl rfl) ?_
    refine z_b1 (fun r4 q3 => ?_)
    refine z_callV (pc' := 9) I mv_Exam_hasTwo ml_Cb_193 (fun ad => [vI x1, vI x2]) ⟨Nat.le_of_ble_eq_true rfl, Nat.le_of_ble_eq_true rfl⟩ k1 (fun hh => c_Exam_hasTwo hw k1 ax1 ax2 hh q3) rfl rfl (Nat.le_of_ble_eq_true rfl) D_Cb_source_0.1.2.1.1 rfl (fun f2 => ?_)
    refine z_if_ne (tgt := 14) (pc' := 12) I (b01.R f2) D_Cb_source_0.1.2.1.2 rfl rfl (fun c5 => ?_) (fun c5 => ?_)
    · refine z_s I (s_aload_n (pc' := 15) 0 rfl D_Cb_source_0.2.1.1.1 rfl rfl) ?_
      refine z_getR (pc' := 18) (eI := o + 94) I g_Cb_44 ao rfl (by omega) D_Cb_source_0.2.1.1.2 rfl ?_
      have k6 : ok τ (4, 3) (o + 94) := r_Cb_odds hw ao (by omega)
      refine z_s I (s_aload_n (pc' := 19) 0 rfl D_Cb_source_0.2.1.2.1 rfl rfl) ?_
      refine z_getR (pc' := 22) (eI := o + 1) I g_Cb_12 ao rfl (by omega) D_Cb_source_0.2.1.2.2 rfl ?_
      have k7 : ok τ (4, 1) (o + 1) := r_Cb_now hw ao (by omega)
      refine z_s I (s_iload_n (pc' := 23) 1 rfl D_Cb_source_0.2.2.1.1 rfl rfl) ?_
      refine z_s I (s_iload_n (pc' := 24) 2 rfl D_Cb_source_0.2.2.1.2 rfl rfl) ?_
      refine z_s I (s_iconst (pc' := 25) D_Cb_source_0.2.2.2.1 rfl) ?_
      refine z_s I (s_iconst (pc' := 26) D_Cb_source_0.2.2.2.2 rfl) ?_
      refine z_b1 (fun h10 q9 => ?_)
      refine z_callV (pc' := 29) I mv_Odds_spread ml_Cb_217 (fun ad => [vR ad (o + 1), vI x1, vI x2, vI 2, vI (-1)]) ⟨Nat.le_of_ble_eq_true rfl, Nat.le_of_ble_eq_true rfl⟩ k6 (fun hh => c_Odds_spread hw k6 k7 ax1 ax2 (inR_c (x := 2) rfl) (inR_c (x := (-1)) rfl) hh q9) rfl rfl (Nat.le_of_ble_eq_true rfl) D_Cb_source_1.1.1.1.1 rfl (fun f8 => ?_)
      refine z_s I (s_aload_n (pc' := 30) 0 rfl D_Cb_source_1.1.1.1.2 rfl rfl) ?_
      refine z_getR (pc' := 33) (eI := o + 94) I g_Cb_44 ao rfl (by omega) D_Cb_source_1.1.1.2.1 rfl ?_
      have k11 : ok τ (4, 3) (o + 94) := r_Cb_odds hw ao (by omega)
      refine z_s I (s_aload_n (pc' := 34) 0 rfl D_Cb_source_1.1.1.2.2 rfl rfl) ?_
      refine z_getR (pc' := 37) (eI := o + 97) I g_Cb_51 ao rfl (by omega) D_Cb_source_1.1.2.1.1 rfl ?_
      have k12 : ok τ (4, 5) (o + 97) := r_Cb_first hw ao (by omega)
      refine z_b1 (fun h15 q14 => ?_)
      refine z_callV (pc' := 40) I mv_Odds_asGreat ml_Cb_221 (fun ad => [vR ad (o + 97)]) ⟨Nat.le_of_ble_eq_true rfl, Nat.le_of_ble_eq_true rfl⟩ k11 (fun hh => c_Odds_asGreat hw k11 k12 hh q14) rfl rfl (Nat.le_of_ble_eq_true rfl) D_Cb_source_1.1.2.1.2 rfl (fun f13 => ?_)
      refine z_s I (s_aload_n (pc' := 41) 0 rfl D_Cb_source_1.1.2.2.1 rfl rfl) ?_
      refine z_getR (pc' := 44) (eI := o + 94) I g_Cb_44 ao rfl (by omega) D_Cb_source_1.1.2.2.2 rfl ?_
      have k16 : ok τ (4, 3) (o + 94) := r_Cb_odds hw ao (by omega)
      refine z_s I (s_aload_n (pc' := 45) 0 rfl D_Cb_source_1.2.1.1.1 rfl rfl) ?_
      refine z_getR (pc' := 48) (eI := o + 1) I g_Cb_12 ao rfl (by omega) D_Cb_source_1.2.1.1.2 rfl ?_
      have k17 : ok τ (4, 1) (o + 1) := r_Cb_now hw ao (by omega)
      refine z_s I (s_iload_n (pc' := 49) 2 rfl D_Cb_source_1.2.1.2.1 rfl rfl) ?_
      refine z_s I (s_iload_n (pc' := 50) 1 rfl D_Cb_source_1.2.1.2.2 rfl rfl) ?_
      refine z_s I (s_iconst (pc' := 51) D_Cb_source_1.2.2.1.1 rfl) ?_
      refine z_s I (s_iconst (pc' := 52) D_Cb_source_1.2.2.1.2 rfl) ?_
      refine z_b1 (fun h20 q19 => ?_)
      refine z_callV (pc' := 55) I mv_Odds_spread ml_Cb_217 (fun ad => [vR ad (o + 1), vI x2, vI x1, vI 2, vI (-1)]) ⟨Nat.le_of_ble_eq_true rfl, Nat.le_of_ble_eq_true rfl⟩ k16 (fun hh => c_Odds_spread hw k16 k17 ax2 ax1 (inR_c (x := 2) rfl) (inR_c (x := (-1)) rfl) hh q19) rfl rfl (Nat.le_of_ble_eq_true rfl) D_Cb_source_1.2.2.2.1 rfl (fun f18 => ?_)
      refine z_s I (s_aload_n (pc' := 56) 0 rfl D_Cb_source_1.2.2.2.2 rfl rfl) ?_
      refine z_getR (pc' := 59) (eI := o + 94) I g_Cb_44 ao rfl (by omega) D_Cb_source_2.1.1.1.1 rfl ?_
      have k21 : ok τ (4, 3) (o + 94) := r_Cb_odds hw ao (by omega)
      refine z_s I (s_aload_n (pc' := 60) 0 rfl D_Cb_source_2.1.1.1.2 rfl rfl) ?_
      refine z_getR (pc' := 63) (eI := o + 98) I g_Cb_55 ao rfl (by omega) D_Cb_source_2.1.1.2.1 rfl ?_
      have k22 : ok τ (4, 5) (o + 98) := r_Cb_second hw ao (by omega)
      refine z_b1 (fun h25 q24 => ?_)
      refine z_callV (pc' := 66) I mv_Odds_asGreat ml_Cb_221 (fun ad => [vR ad (o + 98)]) ⟨Nat.le_of_ble_eq_true rfl, Nat.le_of_ble_eq_true rfl⟩ k21 (fun hh => c_Odds_asGreat hw k21 k22 hh q24) rfl rfl (Nat.le_of_ble_eq_true rfl) D_Cb_source_2.1.1.2.2 rfl (fun f23 => ?_)
      refine z_s I (s_aload_n (pc' := 67) 0 rfl D_Cb_source_2.1.2.1.1 rfl rfl) ?_
      refine z_getR (pc' := 70) (eI := o + 97) I g_Cb_51 ao rfl (by omega) D_Cb_source_2.1.2.1.2 rfl ?_
      have k26 : ok τ (4, 5) (o + 97) := r_Cb_first hw ao (by omega)
      refine z_s I (s_aload_n (pc' := 71) 0 rfl D_Cb_source_2.1.2.2.1 rfl rfl) ?_
      refine z_getR (pc' := 74) (eI := o + 98) I g_Cb_55 ao rfl (by omega) D_Cb_source_2.1.2.2.2 rfl ?_
      have k27 : ok τ (4, 5) (o + 98) := r_Cb_second hw ao (by omega)
      refine z_b1 (fun r30 q29 => ?_)
      refine z_callV (pc' := 77) I mv_Ratio_against ml_Cb_233 (fun ad => [vR ad (o + 98)]) ⟨Nat.le_of_ble_eq_true rfl, Nat.le_of_ble_eq_true rfl⟩ k26 (fun hh => c_Ratio_against hw k26 k27 hh q29) rfl rfl (Nat.le_of_ble_eq_true rfl) D_Cb_source_2.2.1.1.1 rfl (fun f28 => ?_)
      refine z_s I (s_istore_n (pc' := 78) (lv' := [(3, vI r30), (0, vR ad o), (1, vI x1), (2, vI x2)]) D_Cb_source_2.2.1.1.2 rfl (by decide) rfl rfl) ?_
      refine z_s I (s_iload_n (pc' := 79) 0 rfl D_Cb_source_2.2.1.2.1 rfl rfl) ?_
      refine z_if_ne (tgt := 85) (pc' := 82) I f28 D_Cb_source_2.2.1.2.2 rfl rfl (fun c31 => ?_) (fun c31 => ?_)
      · refine z_s I (s_iload_n (pc' := 86) 0 rfl D_Cb_source_2.2.2.2.1 rfl rfl) ?_
        refine z_if_ge (tgt := 93) (pc' := 89) I f28 D_Cb_source_2.2.2.2.2 rfl rfl (fun c32 => ?_) (fun c32 => ?_)
        · refine z_s I (s_iload_n (pc' := 94) 3 rfl D_Cb_source_3.2.1 rfl rfl) ?_
          exact z_ret (w := some (vI x2)) I (fun g => gk0 _ _ g ax2) ⟨_, rfl⟩ D_Cb_source_3.2.2 rfl
        · refine z_s I (s_iload_n (pc' := 90) 2 rfl D_Cb_source_3.1.1 rfl rfl) ?_
          refine z_s I (s_goto (tgt := 94) D_Cb_source_3.1.2 rfl) ?_
          exact z_ret (w := some (vI x1)) I (fun g => gk0 _ _ g ax1) ⟨_, rfl⟩ D_Cb_source_3.2.2 rfl
      · refine z_s I (s_bipush (pc' := 84) D_Cb_source_2.2.2.1.1 rfl rfl) ?_
        exact z_ret (w := some (vI (-5))) I (fun g => gk0 _ _ g (inR_c (x := (-5)) rfl)) ⟨_, rfl⟩ D_Cb_source_2.2.2.1.2 rfl
    · refine z_s I (s_iconst (pc' := 13) D_Cb_source_0.1.2.2.1 rfl) ?_
      exact z_ret (w := some (vI (-1))) I (fun g => gk0 _ _ g (inR_c (x := (-1)) rfl)) ⟨_, rfl⟩ D_Cb_source_0.1.2.2.2 rfl
  exact main _ hF (by rw [hG0])
set_option maxHeartbeats 4000000 in
set_option maxRecDepth 20000 in
theorem c_Cb_without {l : Launch} {τ : TP} {o : Int} {x1 : Int} {x2 : Int} {x3 : Int} {x4 : Int} {h : HP} {r : Int} {h' : HP} (hw : wf τ) (ao : ok τ (4, 9) o) (ax1 : inR x1) (ax2 : inR x2) (ax3 : inR x3) (ax4 : inR x4) (hh : hr τ h) (hF : m_Cb_without o x1 x2 x3 x4 h = some (r, h')) : Ctr l y_Cb_without k_Cb_without 5 (Option.some FieldType.long) 3 88 τ (fun ad => [vR ad o, vI x1, vI x2, vI x3, vI x4]) h (some (vL r)) h' (inL r) := by
  refine ctr_of (by decide) hw hh (fun ad => Nat.le_of_ble_eq_true rfl) (fun ad K Y I hK => ?_)
  obtain ⟨G0, hG0⟩ : ∃ G : Int × HP → Prop, G = fun x => x = (r, h') := ⟨_, rfl⟩
  have gk0 : ∀ (x : Int) (y : HP), G0 (x, y) → inL x → K (some (vL x)) y := fun x y g q => by
    rw [hG0] at g
    cases g
    exact hK q
  have main : Z Y (m_Cb_without o x1 x2 x3 x4 h) G0 h 0 [(0, vR ad o), (1, vI x1), (2, vI x2), (3, vI x3), (4, vI x4)] [] := by
    unfold m_Cb_without
    refine z_s I (s_aload_n (pc' := 1) 0 rfl D_Cb_without_0.1.1.1.1 rfl rfl) ?_
    refine z_getR (pc' := 4) (eI := o + 1) I g_Cb_12 ao rfl (by omega) D_Cb_without_0.1.1.1.2 rfl ?_
    have k1 : ok τ (4, 1) (o + 1) := r_Cb_now hw ao (by omega)
    refine z_s I (s_iload_n (pc' := 5) 1 rfl D_Cb_without_0.1.1.2.1 rfl rfl) ?_
    refine z_s I (s_iload_n (pc' := 6) 2 rfl D_Cb_without_0.1.1.2.2 rfl rfl) ?_
    refine z_b1 (fun r4 q3 => ?_)
    refine z_callV (pc' := 9) I mv_Exam_hasTwo ml_Cb_193 (fun ad => [vI x1, vI x2]) ⟨Nat.le_of_ble_eq_true rfl, Nat.le_of_ble_eq_true rfl⟩ k1 (fun hh => c_Exam_hasTwo hw k1 ax1 ax2 hh q3) rfl rfl (Nat.le_of_ble_eq_true rfl) D_Cb_without_0.1.2.1.1 rfl (fun f2 => ?_)
    refine z_if_eq (tgt := 31) (pc' := 12) I (b01.R f2) D_Cb_without_0.1.2.1.2 rfl rfl (fun c5 => ?_) (fun c5 => ?_)
    · refine z_ldc2 (pc' := 34) (x := (-9223372036854775808)) I cl_Cb_215 (by decide +kernel) D_Cb_without_0.2.2.2.1 rfl ?_
      exact z_ret (w := some (vL (-9223372036854775808))) I (fun g => gk0 _ _ g (inL_c (x := (-9223372036854775808)) rfl)) ⟨_, rfl⟩ D_Cb_without_0.2.2.2.2 rfl
    · refine z_s I (s_aload_n (pc' := 13) 0 rfl D_Cb_without_0.1.2.2.1 rfl rfl) ?_
      refine z_getR (pc' := 16) (eI := o + 1) I g_Cb_12 ao rfl (by omega) D_Cb_without_0.1.2.2.2 rfl ?_
      have k6 : ok τ (4, 1) (o + 1) := r_Cb_now hw ao (by omega)
      refine z_s I (s_iload_n (pc' := 17) 3 rfl D_Cb_without_0.2.1.1.1 rfl rfl) ?_
      refine z_b1 (fun r9 q8 => ?_)
      refine z_callV (pc' := 20) I mv_Exam_hasItem ml_Cb_95 (fun ad => [vI x3]) ⟨Nat.le_of_ble_eq_true rfl, Nat.le_of_ble_eq_true rfl⟩ k6 (fun hh => c_Exam_hasItem hw k6 ax3 hh q8) rfl rfl (Nat.le_of_ble_eq_true rfl) D_Cb_without_0.2.1.1.2 rfl (fun f7 => ?_)
      refine z_if_eq (tgt := 31) (pc' := 23) I (b01.R f7) D_Cb_without_0.2.1.2.1 rfl rfl (fun c10 => ?_) (fun c10 => ?_)
      · refine z_ldc2 (pc' := 34) (x := (-9223372036854775808)) I cl_Cb_215 (by decide +kernel) D_Cb_without_0.2.2.2.1 rfl ?_
        exact z_ret (w := some (vL (-9223372036854775808))) I (fun g => gk0 _ _ g (inL_c (x := (-9223372036854775808)) rfl)) ⟨_, rfl⟩ D_Cb_without_0.2.2.2.2 rfl
      · refine z_s I (s_iload (pc' := 25) 4 rfl D_Cb_without_0.2.1.2.2 rfl) ?_
        refine z_b1 (fun r13 q12 => ?_)
        refine z_callS (pc' := 28) I mv_Cb_isPart ml_Cb_212 (fun ad => [vI x4]) ⟨Nat.le_of_ble_eq_true rfl, Nat.le_of_ble_eq_true rfl⟩ (fun hh => c_Cb_isPart hw ax4 hh q12) rfl rfl (Nat.le_of_ble_eq_true rfl) D_Cb_without_0.2.2.1.1 rfl (fun f11 => ?_)
        refine z_if_ne (tgt := 35) (pc' := 31) I (b01.R f11) D_Cb_without_0.2.2.1.2 rfl rfl (fun c14 => ?_) (fun c14 => ?_)
        · refine z_s I (s_aload_n (pc' := 36) 0 rfl D_Cb_without_1.1.1.1.1 rfl rfl) ?_
          refine z_getR (pc' := 39) (eI := o + 94) I g_Cb_44 ao rfl (by omega) D_Cb_without_1.1.1.1.2 rfl ?_
          have k15 : ok τ (4, 3) (o + 94) := r_Cb_odds hw ao (by omega)
          refine z_s I (s_aload_n (pc' := 40) 0 rfl D_Cb_without_1.1.1.2.1 rfl rfl) ?_
          refine z_getR (pc' := 43) (eI := o + 1) I g_Cb_12 ao rfl (by omega) D_Cb_without_1.1.1.2.2 rfl ?_
          have k16 : ok τ (4, 1) (o + 1) := r_Cb_now hw ao (by omega)
          refine z_s I (s_iload_n (pc' := 44) 1 rfl D_Cb_without_1.1.2.1.1 rfl rfl) ?_
          refine z_s I (s_iload_n (pc' := 45) 2 rfl D_Cb_without_1.1.2.1.2 rfl rfl) ?_
          refine z_s I (s_iconst (pc' := 46) D_Cb_without_1.1.2.2.1 rfl) ?_
          refine z_s I (s_iload_n (pc' := 47) 3 rfl D_Cb_without_1.1.2.2.2 rfl rfl) ?_
          refine z_b1 (fun h19 q18 => ?_)
          refine z_callV (pc' := 50) I mv_Odds_spread ml_Cb_217 (fun ad => [vR ad (o + 1), vI x1, vI x2, vI 0, vI x3]) ⟨Nat.le_of_ble_eq_true rfl, Nat.le_of_ble_eq_true rfl⟩ k15 (fun hh => c_Odds_spread hw k15 k16 ax1 ax2 (b01.R bz0) ax3 hh q18) rfl rfl (Nat.le_of_ble_eq_true rfl) D_Cb_without_1.2.1.1.1 rfl (fun f17 => ?_)
          refine z_s I (s_aload_n (pc' := 51) 0 rfl D_Cb_without_1.2.1.1.2 rfl rfl) ?_
          refine z_getR (pc' := 54) (eI := o + 94) I g_Cb_44 ao rfl (by omega) D_Cb_without_1.2.1.2.1 rfl ?_
          have k20 : ok τ (4, 3) (o + 94) := r_Cb_odds hw ao (by omega)
          refine z_s I (s_aload_n (pc' := 55) 0 rfl D_Cb_without_1.2.1.2.2 rfl rfl) ?_
          refine z_getR (pc' := 58) (eI := o + 97) I g_Cb_51 ao rfl (by omega) D_Cb_without_1.2.2.1.1 rfl ?_
          have k21 : ok τ (4, 5) (o + 97) := r_Cb_first hw ao (by omega)
          refine z_b1 (fun h24 q23 => ?_)
          refine z_callV (pc' := 61) I mv_Odds_asGreat ml_Cb_221 (fun ad => [vR ad (o + 97)]) ⟨Nat.le_of_ble_eq_true rfl, Nat.le_of_ble_eq_true rfl⟩ k20 (fun hh => c_Odds_asGreat hw k20 k21 hh q23) rfl rfl (Nat.le_of_ble_eq_true rfl) D_Cb_without_1.2.2.1.2 rfl (fun f22 => ?_)
          refine z_s I (s_aload_n (pc' := 62) 0 rfl D_Cb_without_1.2.2.2.1 rfl rfl) ?_
          refine z_getR (pc' := 65) (eI := o + 97) I g_Cb_51 ao rfl (by omega) D_Cb_without_1.2.2.2.2 rfl ?_
          have k25 : ok τ (4, 5) (o + 97) := r_Cb_first hw ao (by omega)
          refine z_s I (s_iload (pc' := 67) 4 rfl D_Cb_without_2.1 rfl) ?_
          refine z_b1 (fun r28 q27 => ?_)
          refine z_callV (pc' := 70) I mv_Ratio_half ml_Cb_225 (fun ad => [vI x4]) ⟨Nat.le_of_ble_eq_true rfl, Nat.le_of_ble_eq_true rfl⟩ k25 (fun hh => c_Ratio_half hw k25 ax4 hh q27) rfl rfl (Nat.le_of_ble_eq_true rfl) D_Cb_without_2.2.1 rfl (fun f26 => ?_)
          exact z_ret (w := some (vL r28)) I (fun g => gk0 _ _ g f26) ⟨_, rfl⟩ D_Cb_without_2.2.2 rfl
        · refine z_ldc2 (pc' := 34) (x := (-9223372036854775808)) I cl_Cb_215 (by decide +kernel) D_Cb_without_0.2.2.2.1 rfl ?_
          exact z_ret (w := some (vL (-9223372036854775808))) I (fun g => gk0 _ _ g (inL_c (x := (-9223372036854775808)) rfl)) ⟨_, rfl⟩ D_Cb_without_0.2.2.2.2 rfl
  exact main _ hF (by rw [hG0])
set_option maxHeartbeats 4000000 in
set_option maxRecDepth 20000 in
theorem c_Ratio_copy {l : Launch} {τ : TP} {o : Int} {r1 : Int} {h : HP} {h' : HP} (hw : wf τ) (ao : ok τ (4, 5) o) (ar1 : ok τ (4, 5) r1) (hh : hr τ h) (hF : m_Ratio_copy o r1 h = some h') : Ctr l y_Ratio_copy k_Ratio_copy 2 (Option.none : Option FieldType) 0 0 τ (fun ad => [vR ad o, vR ad r1]) h none h' (True) := by
  refine ctr_of (by decide) hw hh (fun ad => Nat.le_of_ble_eq_true rfl) (fun ad K Y I hK => ?_)
  obtain ⟨G0, hG0⟩ : ∃ G : HP → Prop, G = fun x => x = h' := ⟨_, rfl⟩
  have gk0 : ∀ (x : HP), G0 x → K none x := fun x g => by
    rw [hG0] at g
    cases g
    exact hK trivial
  have main : Z Y (m_Ratio_copy o r1 h) G0 h 0 [(0, vR ad o), (1, vR ad r1)] [] := by
    unfold m_Ratio_copy
    refine z_s I (s_aload_n (pc' := 1) 0 rfl D_Ratio_copy_0.1.1.1 rfl rfl) ?_
    refine z_s I (s_aload_n (pc' := 2) 1 rfl D_Ratio_copy_0.1.1.2 rfl rfl) ?_
    refine z_getL (pc' := 5) (jI := 0) I g_Ratio_7 ar1 rfl rfl D_Ratio_copy_0.1.2.1 rfl (fun f1 => ?_)
    refine z_putL (pc' := 8) (jI := 0) I p_Ratio_7 ao rfl rfl f1 D_Ratio_copy_0.1.2.2 rfl ?_
    refine z_bH (fun h2 e3 => ?_)
    refine z_s I (s_aload_n (pc' := 9) 0 rfl D_Ratio_copy_0.2.1.1 rfl rfl) ?_
    refine z_s I (s_aload_n (pc' := 10) 1 rfl D_Ratio_copy_0.2.1.2 rfl rfl) ?_
    refine z_getL (pc' := 13) (jI := 1) I g_Ratio_13 ar1 rfl rfl D_Ratio_copy_0.2.2.1 rfl (fun f4 => ?_)
    refine z_putL (pc' := 16) (jI := 1) I p_Ratio_13 ao rfl rfl f4 D_Ratio_copy_0.2.2.2.1 rfl ?_
    refine z_bH (fun h5 e6 => ?_)
    exact z_ret (w := none) I (fun g => gk0 _ g) rfl D_Ratio_copy_0.2.2.2.2 rfl
  exact main _ hF (by rw [hG0])
set_option maxHeartbeats 4000000 in
set_option maxRecDepth 20000 in
theorem c_Cb_key {l : Launch} {τ : TP} {o : Int} {x1 : Int} {x2 : Int} {h : HP} {r : Int} {h' : HP} (hw : wf τ) (ao : ok τ (4, 9) o) (ax1 : inR x1) (ax2 : inR x2) (hh : hr τ h) (hF : m_Cb_key o x1 x2 h = some (r, h')) : Ctr l y_Cb_key k_Cb_key 5 (Option.some FieldType.int) 3 88 τ (fun ad => [vR ad o, vI x1, vI x2]) h (some (vI r)) h' (inR r) := by
  refine ctr_of (by decide) hw hh (fun ad => Nat.le_of_ble_eq_true rfl) (fun ad K Y I hK => ?_)
  obtain ⟨G0, hG0⟩ : ∃ G : Int × HP → Prop, G = fun x => x = (r, h') := ⟨_, rfl⟩
  have gk0 : ∀ (x : Int) (y : HP), G0 (x, y) → inR x → K (some (vI x)) y := fun x y g q => by
    rw [hG0] at g
    cases g
    exact hK q
  have L45 : ∀ (s : Int × Int × HP), (inR (s.1) ∧ inR (s.2.1)) → Z Y (m_Cb_key_L45 o x1 x2 s) G0 (s.2.2) 45 [(0, vR ad o), (1, vI x1), (2, vI x2), (3, vI (s.1)), (4, vI (s.2.1))] [] := by
    intro s hs
    refine z_loop (G := G0) (hO := fun s : Int × Int × HP => s.2.2) (lO := fun s : Int × Int × HP => [(0, vR ad o), (1, vI x1), (2, vI x2), (3, vI (s.1)), (4, vI (s.2.1))]) (Φ := fun s : Int × Int × HP => inR (s.1) ∧ inR (s.2.1)) (fun G1 hin1_1 hout1 s hs => ?_) FUEL s hs
    obtain ⟨x3, x4, h⟩ := s
    obtain ⟨ax3, ax4⟩ := hs
    have gk1 := fun (x : Int) (y : HP) (g : G1 (.inr ((x, y)))) (q : inR x) => gk0 x y (hout1 _ g) q
    show Z Y (m_Cb_key_L45b o x1 x2 x3 x4 h) G1 h 45 [(0, vR ad o), (1, vI x1), (2, vI x2), (3, vI x3), (4, vI x4)] []
    unfold m_Cb_key_L45b
    refine z_s I (s_iload (pc' := 47) 4 rfl D_Cb_key_1.2.1.2.1 rfl) ?_
    refine z_s I (s_aload_n (pc' := 48) 0 rfl D_Cb_key_1.2.1.2.2 rfl rfl) ?_
    refine z_getR (pc' := 51) (eI := o + 1) I g_Cb_12 ao rfl (by omega) D_Cb_key_1.2.2.1.1 rfl ?_
    have k1 : ok τ (4, 1) (o + 1) := r_Cb_now hw ao (by omega)
    refine z_getI (pc' := 54) (jI := 0) I g_Cb_87 k1 rfl rfl D_Cb_key_1.2.2.1.2 rfl (fun f2 => ?_)
    refine z_icmp_ge (tgt := 118) (pc' := 57) I ax4 f2 D_Cb_key_1.2.2.2.1 rfl rfl (fun c3 => ?_) (fun c3 => ?_)
    · refine z_s I (s_iload_n (pc' := 119) 3 rfl D_Cb_key_3.2.2.2.1 rfl rfl) ?_
      exact z_ret (w := some (vI x3)) I (fun g => gk1 _ _ g ax3) ⟨_, rfl⟩ D_Cb_key_3.2.2.2.2 rfl
    · refine z_s I (s_aload_n (pc' := 58) 0 rfl D_Cb_key_1.2.2.2.2 rfl rfl) ?_
      refine z_getR (pc' := 61) (eI := o + 94) I g_Cb_44 ao rfl (by omega) D_Cb_key_2.1.1.1.1 rfl ?_
      have k4 : ok τ (4, 3) (o + 94) := r_Cb_odds hw ao (by omega)
      refine z_s I (s_aload_n (pc' := 62) 0 rfl D_Cb_key_2.1.1.1.2 rfl rfl) ?_
      refine z_getR (pc' := 65) (eI := o + 1) I g_Cb_12 ao rfl (by omega) D_Cb_key_2.1.1.2.1 rfl ?_
      have k5 : ok τ (4, 1) (o + 1) := r_Cb_now hw ao (by omega)
      refine z_s I (s_iload_n (pc' := 66) 1 rfl D_Cb_key_2.1.1.2.2 rfl rfl) ?_
      refine z_s I (s_iload_n (pc' := 67) 2 rfl D_Cb_key_2.1.2.1.1 rfl rfl) ?_
      refine z_s I (s_iconst (pc' := 68) D_Cb_key_2.1.2.1.2 rfl) ?_
      refine z_s I (s_iload (pc' := 70) 4 rfl D_Cb_key_2.1.2.2.1 rfl) ?_
      refine z_b1 (fun h8 q7 => ?_)
      refine z_callV (pc' := 73) I mv_Odds_spread ml_Cb_217 (fun ad => [vR ad (o + 1), vI x1, vI x2, vI 0, vI x4]) ⟨Nat.le_of_ble_eq_true rfl, Nat.le_of_ble_eq_true rfl⟩ k4 (fun hh => c_Odds_spread hw k4 k5 ax1 ax2 (b01.R bz0) ax4 hh q7) rfl rfl (Nat.le_of_ble_eq_true rfl) D_Cb_key_2.1.2.2.2 rfl (fun f6 => ?_)
      refine z_s I (s_aload_n (pc' := 74) 0 rfl D_Cb_key_2.2.1.1.1 rfl rfl) ?_
      refine z_getR (pc' := 77) (eI := o + 94) I g_Cb_44 ao rfl (by omega) D_Cb_key_2.2.1.1.2 rfl ?_
      have k9 : ok τ (4, 3) (o + 94) := r_Cb_odds hw ao (by omega)
      refine z_s I (s_aload_n (pc' := 78) 0 rfl D_Cb_key_2.2.1.2.1 rfl rfl) ?_
      refine z_getR (pc' := 81) (eI := o + 98) I g_Cb_55 ao rfl (by omega) D_Cb_key_2.2.1.2.2 rfl ?_
      have k10 : ok τ (4, 5) (o + 98) := r_Cb_second hw ao (by omega)
      refine z_b1 (fun h13 q12 => ?_)
      refine z_callV (pc' := 84) I mv_Odds_asGreat ml_Cb_221 (fun ad => [vR ad (o + 98)]) ⟨Nat.le_of_ble_eq_true rfl, Nat.le_of_ble_eq_true rfl⟩ k9 (fun hh => c_Odds_asGreat hw k9 k10 hh q12) rfl rfl (Nat.le_of_ble_eq_true rfl) D_Cb_key_2.2.2.1.1 rfl (fun f11 => ?_)
      refine z_s I (s_aload_n (pc' := 85) 0 rfl D_Cb_key_2.2.2.1.2 rfl rfl) ?_
      refine z_getR (pc' := 88) (eI := o + 98) I g_Cb_55 ao rfl (by omega) D_Cb_key_2.2.2.2.1 rfl ?_
      have k14 : ok τ (4, 5) (o + 98) := r_Cb_second hw ao (by omega)
      refine z_s I (s_aload_n (pc' := 89) 0 rfl D_Cb_key_2.2.2.2.2 rfl rfl) ?_
      refine z_getR (pc' := 92) (eI := o + 97) I g_Cb_51 ao rfl (by omega) D_Cb_key_3.1.1.1 rfl ?_
      have k15 : ok τ (4, 5) (o + 97) := r_Cb_first hw ao (by omega)
      refine z_b1 (fun r18 q17 => ?_)
      refine z_callV (pc' := 95) I mv_Ratio_against ml_Cb_233 (fun ad => [vR ad (o + 97)]) ⟨Nat.le_of_ble_eq_true rfl, Nat.le_of_ble_eq_true rfl⟩ k14 (fun hh => c_Ratio_against hw k14 k15 hh q17) rfl rfl (Nat.le_of_ble_eq_true rfl) D_Cb_key_3.1.1.2.1 rfl (fun f16 => ?_)
      refine z_if_le (tgt := 112) (pc' := 98) I f16 D_Cb_key_3.1.1.2.2 rfl rfl (fun c19 => ?_) (fun c19 => ?_)
      · refine z_s I (s_iinc (pc' := 115) (lv' := [(4, vI (w32 (x4 + 1))), (0, vR ad o), (1, vI x1), (2, vI x2), (3, vI x3)]) (n := 4) rfl D_Cb_key_3.2.2.1.1 (by decide) rfl rfl) ?_
        refine z_s I (s_goto (tgt := 45) D_Cb_key_3.2.2.1.2 rfl) ?_
        refine z_s I (s_lv (lv' := [(0, vR ad o), (1, vI x1), (2, vI x2), (3, vI x3), (4, vI (w32 (x4 + 1)))]) [1, 2, 3, 4, 0] rfl) ?_
        exact z_end (fun g => hin1_1 _ g ⟨ax3, (inR_w32 _)⟩)
      · refine z_s I (s_iload (pc' := 100) 4 rfl D_Cb_key_3.1.2.1.1 rfl) ?_
        refine z_s I (s_istore_n (pc' := 101) (lv' := [(3, vI x4), (0, vR ad o), (1, vI x1), (2, vI x2), (4, vI x4)]) D_Cb_key_3.1.2.1.2 rfl (by decide) rfl rfl) ?_
        refine z_s I (s_aload_n (pc' := 102) 1 rfl D_Cb_key_3.1.2.2.1 rfl rfl) ?_
        refine z_getR (pc' := 105) (eI := o + 97) I g_Cb_51 ao rfl (by omega) D_Cb_key_3.1.2.2.2 rfl ?_
        have k20 : ok τ (4, 5) (o + 97) := r_Cb_first hw ao (by omega)
        refine z_s I (s_aload_n (pc' := 106) 1 rfl D_Cb_key_3.2.1.1 rfl rfl) ?_
        refine z_getR (pc' := 109) (eI := o + 98) I g_Cb_55 ao rfl (by omega) D_Cb_key_3.2.1.2.1 rfl ?_
        have k21 : ok τ (4, 5) (o + 98) := r_Cb_second hw ao (by omega)
        refine z_b1 (fun h24 q23 => ?_)
        refine z_callV (pc' := 112) I mv_Ratio_copy ml_Cb_237 (fun ad => [vR ad (o + 98)]) ⟨Nat.le_of_ble_eq_true rfl, Nat.le_of_ble_eq_true rfl⟩ k20 (fun hh => c_Ratio_copy hw k20 k21 hh q23) rfl rfl (Nat.le_of_ble_eq_true rfl) D_Cb_key_3.2.1.2.2 rfl (fun f22 => ?_)
        refine z_s I (s_iinc (pc' := 115) (lv' := [(4, vI (w32 (x4 + 1))), (3, vI x4), (0, vR ad o), (1, vI x1), (2, vI x2)]) (n := 4) rfl D_Cb_key_3.2.2.1.1 (by decide) rfl rfl) ?_
        refine z_s I (s_goto (tgt := 45) D_Cb_key_3.2.2.1.2 rfl) ?_
        refine z_s I (s_lv (lv' := [(0, vR ad o), (1, vI x1), (2, vI x2), (3, vI x4), (4, vI (w32 (x4 + 1)))]) [2, 3, 4, 1, 0] rfl) ?_
        exact z_end (fun g => hin1_1 _ g ⟨ax4, (inR_w32 _)⟩)
  have main : Z Y (m_Cb_key o x1 x2 h) G0 h 0 [(0, vR ad o), (1, vI x1), (2, vI x2)] [] := by
    unfold m_Cb_key
    refine z_s I (s_aload_n (pc' := 1) 0 rfl D_Cb_key_0.1.1.1.1 rfl rfl) ?_
    refine z_getR (pc' := 4) (eI := o + 1) I g_Cb_12 ao rfl (by omega) D_Cb_key_0.1.1.1.2 rfl ?_
    have k25 : ok τ (4, 1) (o + 1) := r_Cb_now hw ao (by omega)
    refine z_s I (s_iload_n (pc' := 5) 1 rfl D_Cb_key_0.1.1.2.1 rfl rfl) ?_
    refine z_s I (s_iload_n (pc' := 6) 2 rfl D_Cb_key_0.1.1.2.2 rfl rfl) ?_
    refine z_b1 (fun r28 q27 => ?_)
    refine z_callV (pc' := 9) I mv_Exam_hasTwo ml_Cb_193 (fun ad => [vI x1, vI x2]) ⟨Nat.le_of_ble_eq_true rfl, Nat.le_of_ble_eq_true rfl⟩ k25 (fun hh => c_Exam_hasTwo hw k25 ax1 ax2 hh q27) rfl rfl (Nat.le_of_ble_eq_true rfl) D_Cb_key_0.1.2.1.1 rfl (fun f26 => ?_)
    refine z_if_ne (tgt := 14) (pc' := 12) I (b01.R f26) D_Cb_key_0.1.2.1.2 rfl rfl (fun c29 => ?_) (fun c29 => ?_)
    · refine z_s I (s_iconst (pc' := 15) D_Cb_key_0.2.1.1.1 rfl) ?_
      refine z_s I (s_istore_n (pc' := 16) (lv' := [(3, vI 0), (0, vR ad o), (1, vI x1), (2, vI x2)]) D_Cb_key_0.2.1.1.2 rfl (by decide) rfl rfl) ?_
      refine z_s I (s_aload_n (pc' := 17) 1 rfl D_Cb_key_0.2.1.2.1 rfl rfl) ?_
      refine z_getR (pc' := 20) (eI := o + 94) I g_Cb_44 ao rfl (by omega) D_Cb_key_0.2.1.2.2 rfl ?_
      have k30 : ok τ (4, 3) (o + 94) := r_Cb_odds hw ao (by omega)
      refine z_s I (s_aload_n (pc' := 21) 1 rfl D_Cb_key_0.2.2.1.1 rfl rfl) ?_
      refine z_getR (pc' := 24) (eI := o + 1) I g_Cb_12 ao rfl (by omega) D_Cb_key_0.2.2.1.2 rfl ?_
      have k31 : ok τ (4, 1) (o + 1) := r_Cb_now hw ao (by omega)
      refine z_s I (s_iload_n (pc' := 25) 2 rfl D_Cb_key_0.2.2.2.1 rfl rfl) ?_
      refine z_s I (s_iload_n (pc' := 26) 3 rfl D_Cb_key_0.2.2.2.2 rfl rfl) ?_
      refine z_s I (s_iconst (pc' := 27) D_Cb_key_1.1.1.1.1 rfl) ?_
      refine z_s I (s_iload_n (pc' := 28) 0 rfl D_Cb_key_1.1.1.1.2 rfl rfl) ?_
      refine z_b1 (fun h34 q33 => ?_)
      refine z_callV (pc' := 31) I mv_Odds_spread ml_Cb_217 (fun ad => [vR ad (o + 1), vI x1, vI x2, vI 0, vI 0]) ⟨Nat.le_of_ble_eq_true rfl, Nat.le_of_ble_eq_true rfl⟩ k30 (fun hh => c_Odds_spread hw k30 k31 ax1 ax2 (b01.R bz0) (b01.R bz0) hh q33) rfl rfl (Nat.le_of_ble_eq_true rfl) D_Cb_key_1.1.1.2.1 rfl (fun f32 => ?_)
      refine z_s I (s_aload_n (pc' := 32) 1 rfl D_Cb_key_1.1.1.2.2 rfl rfl) ?_
      refine z_getR (pc' := 35) (eI := o + 94) I g_Cb_44 ao rfl (by omega) D_Cb_key_1.1.2.1.1 rfl ?_
      have k35 : ok τ (4, 3) (o + 94) := r_Cb_odds hw ao (by omega)
      refine z_s I (s_aload_n (pc' := 36) 1 rfl D_Cb_key_1.1.2.1.2 rfl rfl) ?_
      refine z_getR (pc' := 39) (eI := o + 97) I g_Cb_51 ao rfl (by omega) D_Cb_key_1.1.2.2.1 rfl ?_
      have k36 : ok τ (4, 5) (o + 97) := r_Cb_first hw ao (by omega)
      refine z_b1 (fun h39 q38 => ?_)
      refine z_callV (pc' := 42) I mv_Odds_asGreat ml_Cb_221 (fun ad => [vR ad (o + 97)]) ⟨Nat.le_of_ble_eq_true rfl, Nat.le_of_ble_eq_true rfl⟩ k35 (fun hh => c_Odds_asGreat hw k35 k36 hh q38) rfl rfl (Nat.le_of_ble_eq_true rfl) D_Cb_key_1.1.2.2.2 rfl (fun f37 => ?_)
      refine z_s I (s_iconst (pc' := 43) D_Cb_key_1.2.1.1.1 rfl) ?_
      refine z_s I (s_istore (pc' := 45) (lv' := [(4, vI 1), (3, vI 0), (0, vR ad o), (1, vI x1), (2, vI x2)]) D_Cb_key_1.2.1.1.2 (by decide) rfl rfl) ?_
      refine z_s I (s_lv (lv' := [(0, vR ad o), (1, vI x1), (2, vI x2), (3, vI 0), (4, vI 1)]) [2, 3, 4, 1, 0] rfl) ?_
      exact L45 _ ⟨(b01.R bz0), (b01.R bz1)⟩
    · refine z_s I (s_iconst (pc' := 13) D_Cb_key_0.1.2.2.1 rfl) ?_
      exact z_ret (w := some (vI (-1))) I (fun g => gk0 _ _ g (inR_c (x := (-1)) rfl)) ⟨_, rfl⟩ D_Cb_key_0.1.2.2.2 rfl
  exact main _ hF (by rw [hG0])
set_option maxHeartbeats 4000000 in
set_option maxRecDepth 20000 in
theorem c_Exam_hasSeat {l : Launch} {τ : TP} {o : Int} {x1 : Int} {h : HP} {r : Int} (hw : wf τ) (ao : ok τ (4, 1) o) (ax1 : inR x1) (hh : hr τ h) (hF : m_Exam_hasSeat o x1 h = some r) : Ctr l y_Exam_hasSeat k_Exam_hasSeat 2 (Option.some FieldType.boolean) 0 0 τ (fun ad => [vR ad o, vI x1]) h (some (vI r)) h (b01 r) := by
  refine ctr_of (by decide) hw hh (fun ad => Nat.le_of_ble_eq_true rfl) (fun ad K Y I hK => ?_)
  obtain ⟨G0, hG0⟩ : ∃ G : Int → Prop, G = fun x => x = r := ⟨_, rfl⟩
  have gk0 : ∀ (x : Int), G0 x → b01 x → K (some (vI x)) h := fun x g q => by
    rw [hG0] at g
    cases g
    exact hK q
  have main : Z Y (m_Exam_hasSeat o x1 h) G0 h 0 [(0, vR ad o), (1, vI x1)] [] := by
    unfold m_Exam_hasSeat
    refine z_s I (s_aload_n (pc' := 1) 0 rfl D_Exam_hasSeat_0.1.1.1 rfl rfl) ?_
    refine z_getR (pc' := 4) (eI := o + 21) I g_Exam_39 ao rfl (by omega) D_Exam_hasSeat_0.1.1.2 rfl ?_
    have k1 : ok τ (0, 8) (o + 21) := r_Exam_row hw ao (by omega)
    refine z_s I (s_iload_n (pc' := 5) 1 rfl D_Exam_hasSeat_0.1.2.1 rfl rfl) ?_
    refine z_iald (pc' := 6) (nI := 8) I k1 ax1 rfl D_Exam_hasSeat_0.1.2.2 rfl (fun c2 f3 => ?_)
    refine z_if_lt (tgt := 13) (pc' := 9) I f3 D_Exam_hasSeat_0.2.1.1 rfl rfl (fun c4 => ?_) (fun c4 => ?_)
    · refine z_s I (s_iconst (pc' := 14) D_Exam_hasSeat_0.2.2.2.1 rfl) ?_
      exact z_ret (w := some (vI 0)) I (fun g => gk0 _ g bz0) ⟨_, bz0, rfl⟩ D_Exam_hasSeat_0.2.2.2.2 rfl
    · refine z_s I (s_iconst (pc' := 10) D_Exam_hasSeat_0.2.1.2 rfl) ?_
      refine z_s I (s_goto (tgt := 14) D_Exam_hasSeat_0.2.2.1 rfl) ?_
      exact z_ret (w := some (vI 1)) I (fun g => gk0 _ g bz1) ⟨_, bz1, rfl⟩ D_Exam_hasSeat_0.2.2.2.2 rfl
  exact main _ hF (by rw [hG0])
set_option maxHeartbeats 4000000 in
set_option maxRecDepth 20000 in
theorem c_Exam_near {l : Launch} {τ : TP} {o : Int} {x1 : Int} {x2 : Int} {x3 : Int} {h : HP} {r : Int} (hw : wf τ) (ao : ok τ (4, 1) o) (ax1 : inR x1) (ax2 : inR x2) (ax3 : inR x3) (hh : hr τ h) (hF : m_Exam_near o x1 x2 x3 h = some r) : Ctr l y_Exam_near k_Exam_near 4 (Option.some FieldType.boolean) 1 21 τ (fun ad => [vR ad o, vI x1, vI x2, vI x3]) h (some (vI r)) h (b01 r) := by
  refine ctr_of (by decide) hw hh (fun ad => Nat.le_of_ble_eq_true rfl) (fun ad K Y I hK => ?_)
  obtain ⟨G0, hG0⟩ : ∃ G : Int → Prop, G = fun x => x = r := ⟨_, rfl⟩
  have gk0 : ∀ (x : Int), G0 x → b01 x → K (some (vI x)) h := fun x g q => by
    rw [hG0] at g
    cases g
    exact hK q
  have main : Z Y (m_Exam_near o x1 x2 x3 h) G0 h 0 [(0, vR ad o), (1, vI x1), (2, vI x2), (3, vI x3)] [] := by
    unfold m_Exam_near
    refine z_s I (s_aload_n (pc' := 1) 0 rfl D_Exam_near_0.1.1.1.1 rfl rfl) ?_
    refine z_s I (s_iload_n (pc' := 2) 1 rfl D_Exam_near_0.1.1.1.2 rfl rfl) ?_
    refine z_b1 (fun r3 q2 => ?_)
    refine z_callV (pc' := 5) I mv_Exam_hasSeat ml_Exam_88 (fun ad => [vI x1]) ⟨Nat.le_of_ble_eq_true rfl, Nat.le_of_ble_eq_true rfl⟩ ao (fun hh => c_Exam_hasSeat hw ao ax1 hh q2) rfl rfl (Nat.le_of_ble_eq_true rfl) D_Exam_near_0.1.1.2.1 rfl (fun f1 => ?_)
    refine z_if_eq (tgt := 60) (pc' := 8) I (b01.R f1) D_Exam_near_0.1.1.2.2 rfl rfl (fun c4 => ?_) (fun c4 => ?_)
    · refine z_s I (s_iconst (pc' := 61) D_Exam_near_2.2.1 rfl) ?_
      exact z_ret (w := some (vI 0)) I (fun g => gk0 _ g bz0) ⟨_, bz0, rfl⟩ D_Exam_near_2.2.2 rfl
    · refine z_s I (s_aload_n (pc' := 9) 0 rfl D_Exam_near_0.1.2.1.1 rfl rfl) ?_
      refine z_s I (s_iload_n (pc' := 10) 2 rfl D_Exam_near_0.1.2.1.2 rfl rfl) ?_
      refine z_b1 (fun r7 q6 => ?_)
      refine z_callV (pc' := 13) I mv_Exam_hasSeat ml_Exam_88 (fun ad => [vI x2]) ⟨Nat.le_of_ble_eq_true rfl, Nat.le_of_ble_eq_true rfl⟩ ao (fun hh => c_Exam_hasSeat hw ao ax2 hh q6) rfl rfl (Nat.le_of_ble_eq_true rfl) D_Exam_near_0.1.2.2.1 rfl (fun f5 => ?_)
      refine z_if_eq (tgt := 60) (pc' := 16) I (b01.R f5) D_Exam_near_0.1.2.2.2 rfl rfl (fun c8 => ?_) (fun c8 => ?_)
      · refine z_s I (s_iconst (pc' := 61) D_Exam_near_2.2.1 rfl) ?_
        exact z_ret (w := some (vI 0)) I (fun g => gk0 _ g bz0) ⟨_, bz0, rfl⟩ D_Exam_near_2.2.2 rfl
      · refine z_s I (s_aload_n (pc' := 17) 0 rfl D_Exam_near_0.2.1.1.1 rfl rfl) ?_
        refine z_getR (pc' := 20) (eI := o + 21) I g_Exam_39 ao rfl (by omega) D_Exam_near_0.2.1.1.2 rfl ?_
        have k9 : ok τ (0, 8) (o + 21) := r_Exam_row hw ao (by omega)
        refine z_s I (s_iload_n (pc' := 21) 1 rfl D_Exam_near_0.2.1.2.1 rfl rfl) ?_
        refine z_iald (pc' := 22) (nI := 8) I k9 ax1 rfl D_Exam_near_0.2.1.2.2 rfl (fun c10 f11 => ?_)
        refine z_s I (s_aload_n (pc' := 23) 0 rfl D_Exam_near_0.2.2.1.1 rfl rfl) ?_
        refine z_getR (pc' := 26) (eI := o + 21) I g_Exam_39 ao rfl (by omega) D_Exam_near_0.2.2.1.2 rfl ?_
        have k12 : ok τ (0, 8) (o + 21) := r_Exam_row hw ao (by omega)
        refine z_s I (s_iload_n (pc' := 27) 2 rfl D_Exam_near_0.2.2.2.1 rfl rfl) ?_
        refine z_iald (pc' := 28) (nI := 8) I k12 ax2 rfl D_Exam_near_0.2.2.2.2 rfl (fun c13 f14 => ?_)
        refine z_s I (s_isub (pc' := 29) D_Exam_near_1.1.1.1.1 rfl) ?_
        refine z_mabs (pc' := 32) I (inR_w32 _) ml_Exam_102 (Nat.le_of_ble_eq_true rfl) (Nat.le_of_ble_eq_true rfl) D_Exam_near_1.1.1.1.2 rfl ?_
        refine z_bI (by split; exact (inR_w32 _); exact inR_w32 _) (fun v16 e17 f18 => ?_)
        refine z_s I (s_iload_n (pc' := 33) 3 rfl D_Exam_near_1.1.1.2.1 rfl rfl) ?_
        refine z_icmp_gt (tgt := 60) (pc' := 36) I f18 ax3 D_Exam_near_1.1.1.2.2 rfl rfl (fun c19 => ?_) (fun c19 => ?_)
        · refine z_s I (s_iconst (pc' := 61) D_Exam_near_2.2.1 rfl) ?_
          exact z_ret (w := some (vI 0)) I (fun g => gk0 _ g bz0) ⟨_, bz0, rfl⟩ D_Exam_near_2.2.2 rfl
        · refine z_s I (s_aload_n (pc' := 37) 0 rfl D_Exam_near_1.1.2.1.1 rfl rfl) ?_
          refine z_getR (pc' := 40) (eI := o + 22) I g_Exam_42 ao rfl (by omega) D_Exam_near_1.1.2.1.2 rfl ?_
          have k20 : ok τ (0, 8) (o + 22) := r_Exam_place hw ao (by omega)
          refine z_s I (s_iload_n (pc' := 41) 1 rfl D_Exam_near_1.1.2.2.1 rfl rfl) ?_
          refine z_iald (pc' := 42) (nI := 8) I k20 ax1 rfl D_Exam_near_1.1.2.2.2 rfl (fun c21 f22 => ?_)
          refine z_s I (s_aload_n (pc' := 43) 0 rfl D_Exam_near_1.2.1.1.1 rfl rfl) ?_
          refine z_getR (pc' := 46) (eI := o + 22) I g_Exam_42 ao rfl (by omega) D_Exam_near_1.2.1.1.2 rfl ?_
          have k23 : ok τ (0, 8) (o + 22) := r_Exam_place hw ao (by omega)
          refine z_s I (s_iload_n (pc' := 47) 2 rfl D_Exam_near_1.2.1.2.1 rfl rfl) ?_
          refine z_iald (pc' := 48) (nI := 8) I k23 ax2 rfl D_Exam_near_1.2.1.2.2 rfl (fun c24 f25 => ?_)
          refine z_s I (s_isub (pc' := 49) D_Exam_near_1.2.2.1.1 rfl) ?_
          refine z_mabs (pc' := 52) I (inR_w32 _) ml_Exam_102 (Nat.le_of_ble_eq_true rfl) (Nat.le_of_ble_eq_true rfl) D_Exam_near_1.2.2.1.2 rfl ?_
          refine z_bI (by split; exact (inR_w32 _); exact inR_w32 _) (fun v27 e28 f29 => ?_)
          refine z_s I (s_iload_n (pc' := 53) 3 rfl D_Exam_near_1.2.2.2.1 rfl rfl) ?_
          refine z_icmp_gt (tgt := 60) (pc' := 56) I f29 ax3 D_Exam_near_1.2.2.2.2 rfl rfl (fun c30 => ?_) (fun c30 => ?_)
          · refine z_s I (s_iconst (pc' := 61) D_Exam_near_2.2.1 rfl) ?_
            exact z_ret (w := some (vI 0)) I (fun g => gk0 _ g bz0) ⟨_, bz0, rfl⟩ D_Exam_near_2.2.2 rfl
          · refine z_s I (s_iconst (pc' := 57) D_Exam_near_2.1.1 rfl) ?_
            refine z_s I (s_goto (tgt := 61) D_Exam_near_2.1.2 rfl) ?_
            exact z_ret (w := some (vI 1)) I (fun g => gk0 _ g bz1) ⟨_, bz1, rfl⟩ D_Exam_near_2.2.2 rfl
  exact main _ hF (by rw [hG0])
set_option maxHeartbeats 4000000 in
set_option maxRecDepth 20000 in
theorem c_Exam_nearOnes {l : Launch} {τ : TP} {o : Int} {x1 : Int} {h : HP} {r : Int} (hw : wf τ) (ao : ok τ (4, 1) o) (ax1 : inR x1) (hh : hr τ h) (hF : m_Exam_nearOnes o x1 h = some r) : Ctr l y_Exam_nearOnes k_Exam_nearOnes 5 (Option.some FieldType.int) 2 44 τ (fun ad => [vR ad o, vI x1]) h (some (vI r)) h (inR r) := by
  refine ctr_of (by decide) hw hh (fun ad => Nat.le_of_ble_eq_true rfl) (fun ad K Y I hK => ?_)
  obtain ⟨G0, hG0⟩ : ∃ G : Int → Prop, G = fun x => x = r := ⟨_, rfl⟩
  have gk0 : ∀ (x : Int), G0 x → inR x → K (some (vI x)) h := fun x g q => by
    rw [hG0] at g
    cases g
    exact hK q
  have L4 : ∀ (s : Int × Int), (inR (s.1) ∧ inR (s.2)) → Z Y (m_Exam_nearOnes_L4 o x1 h s) G0 h 4 [(0, vR ad o), (1, vI x1), (2, vI (s.1)), (3, vI (s.2))] [] := by
    intro s hs
    refine z_loop (G := G0) (hO := fun s : Int × Int => h) (lO := fun s : Int × Int => [(0, vR ad o), (1, vI x1), (2, vI (s.1)), (3, vI (s.2))]) (Φ := fun s : Int × Int => inR (s.1) ∧ inR (s.2)) (fun G1 hin1_1 hout1 s hs => ?_) FUEL s hs
    obtain ⟨x2, x3⟩ := s
    obtain ⟨ax2, ax3⟩ := hs
    have gk1 := fun (x : Int) (g : G1 (.inr (x))) (q : inR x) => gk0 x (hout1 _ g) q
    have L17 : ∀ (x3 : Int) (ax3 : inR x3) (s : Int × Int), (inR (s.1) ∧ inR (s.2)) → Z Y (m_Exam_nearOnes_L17 o x1 x3 h s) G1 h 17 [(0, vR ad o), (1, vI x1), (3, vI x3), (2, vI (s.1)), (4, vI (s.2))] [] := by
      intro x3 ax3 s hs
      refine z_loop (G := G1) (hO := fun s : Int × Int => h) (lO := fun s : Int × Int => [(0, vR ad o), (1, vI x1), (3, vI x3), (2, vI (s.1)), (4, vI (s.2))]) (Φ := fun s : Int × Int => inR (s.1) ∧ inR (s.2)) (fun G2 hin2_2 hout2 s hs => ?_) FUEL s hs
      obtain ⟨x2, x4⟩ := s
      obtain ⟨ax2, ax4⟩ := hs
      have hin1_2 := fun (s' : Int × Int) (g : G2 (.inr (.inl s'))) => hin1_1 s' (hout2 _ g)
      have gk2 := fun (x : Int) (g : G2 (.inr (.inr (x)))) (q : inR x) => gk1 x (hout2 _ g) q
      show Z Y (m_Exam_nearOnes_L17b o x1 x3 h x2 x4) G2 h 17 [(0, vR ad o), (1, vI x1), (3, vI x3), (2, vI x2), (4, vI x4)] []
      unfold m_Exam_nearOnes_L17b
      refine z_s I (s_iload (pc' := 19) 4 rfl D_Exam_nearOnes_0.2.2.1.1 rfl) ?_
      refine z_s I (s_aload_n (pc' := 20) 0 rfl D_Exam_nearOnes_0.2.2.1.2 rfl rfl) ?_
      refine z_getI (pc' := 23) (jI := 1) I g_Exam_15 ao rfl rfl D_Exam_nearOnes_0.2.2.2.1 rfl (fun f1 => ?_)
      refine z_icmp_ge (tgt := 46) (pc' := 26) I ax4 f1 D_Exam_nearOnes_0.2.2.2.2 rfl rfl (fun c2 => ?_) (fun c2 => ?_)
      · refine z_s I (s_iinc (pc' := 49) (lv' := [(3, vI (w32 (x3 + 1))), (0, vR ad o), (1, vI x1), (2, vI x2), (4, vI x4)]) (n := 2) rfl D_Exam_nearOnes_1.2.2.1.1 (by decide) rfl rfl) ?_
        refine z_s I (s_goto (tgt := 4) D_Exam_nearOnes_1.2.2.1.2 rfl) ?_
        refine z_s I (s_lv (lv' := [(0, vR ad o), (1, vI x1), (2, vI x2), (3, vI (w32 (x3 + 1)))]) [1, 2, 3, 0] rfl) ?_
        exact z_end (fun g => hin1_2 _ g ⟨ax2, (inR_w32 _)⟩)
      · refine z_s I (s_aload_n (pc' := 27) 0 rfl D_Exam_nearOnes_1.1.1.1 rfl rfl) ?_
        refine z_s I (s_iload_n (pc' := 28) 2 rfl D_Exam_nearOnes_1.1.1.2.1 rfl rfl) ?_
        refine z_s I (s_iload (pc' := 30) 4 rfl D_Exam_nearOnes_1.1.1.2.2 rfl) ?_
        refine z_s I (s_iload_n (pc' := 31) 1 rfl D_Exam_nearOnes_1.1.2.1 rfl rfl) ?_
        refine z_b1 (fun r5 q4 => ?_)
        refine z_callV (pc' := 34) I mv_Exam_near ml_Exam_108 (fun ad => [vI x3, vI x4, vI x1]) ⟨Nat.le_of_ble_eq_true rfl, Nat.le_of_ble_eq_true rfl⟩ ao (fun hh => c_Exam_near hw ao ax3 ax4 ax1 hh q4) rfl rfl (Nat.le_of_ble_eq_true rfl) D_Exam_nearOnes_1.1.2.2.1 rfl (fun f3 => ?_)
        refine z_if_eq (tgt := 40) (pc' := 37) I (b01.R f3) D_Exam_nearOnes_1.1.2.2.2 rfl rfl (fun c6 => ?_) (fun c6 => ?_)
        · refine z_s I (s_iinc (pc' := 43) (lv' := [(4, vI (w32 (x4 + 1))), (0, vR ad o), (1, vI x1), (3, vI x3), (2, vI x2)]) (n := 4) rfl D_Exam_nearOnes_1.2.1.2.1 (by decide) rfl rfl) ?_
          refine z_s I (s_goto (tgt := 17) D_Exam_nearOnes_1.2.1.2.2 rfl) ?_
          refine z_s I (s_lv (lv' := [(0, vR ad o), (1, vI x1), (3, vI x3), (2, vI x2), (4, vI (w32 (x4 + 1)))]) [1, 2, 3, 4, 0] rfl) ?_
          exact z_end (fun g => hin2_2 _ g ⟨ax2, (inR_w32 _)⟩)
        · refine z_s I (s_iinc (pc' := 40) (lv' := [(2, vI (w32 (x2 + 1))), (0, vR ad o), (1, vI x1), (3, vI x3), (4, vI x4)]) (n := 3) rfl D_Exam_nearOnes_1.2.1.1 (by decide) rfl rfl) ?_
          refine z_s I (s_iinc (pc' := 43) (lv' := [(4, vI (w32 (x4 + 1))), (2, vI (w32 (x2 + 1))), (0, vR ad o), (1, vI x1), (3, vI x3)]) (n := 4) rfl D_Exam_nearOnes_1.2.1.2.1 (by decide) rfl rfl) ?_
          refine z_s I (s_goto (tgt := 17) D_Exam_nearOnes_1.2.1.2.2 rfl) ?_
          refine z_s I (s_lv (lv' := [(0, vR ad o), (1, vI x1), (3, vI x3), (2, vI (w32 (x2 + 1))), (4, vI (w32 (x4 + 1)))]) [2, 3, 4, 1, 0] rfl) ?_
          exact z_end (fun g => hin2_2 _ g ⟨(inR_w32 _), (inR_w32 _)⟩)
    show Z Y (m_Exam_nearOnes_L4b o x1 h x2 x3) G1 h 4 [(0, vR ad o), (1, vI x1), (2, vI x2), (3, vI x3)] []
    unfold m_Exam_nearOnes_L4b
    refine z_s I (s_iload_n (pc' := 5) 3 rfl D_Exam_nearOnes_0.1.2.1.1 rfl rfl) ?_
    refine z_s I (s_aload_n (pc' := 6) 0 rfl D_Exam_nearOnes_0.1.2.1.2 rfl rfl) ?_
    refine z_getI (pc' := 9) (jI := 1) I g_Exam_15 ao rfl rfl D_Exam_nearOnes_0.1.2.2.1 rfl (fun f7 => ?_)
    refine z_icmp_ge (tgt := 52) (pc' := 12) I ax3 f7 D_Exam_nearOnes_0.1.2.2.2 rfl rfl (fun c8 => ?_) (fun c8 => ?_)
    · refine z_s I (s_iload_n (pc' := 53) 2 rfl D_Exam_nearOnes_1.2.2.2.1 rfl rfl) ?_
      exact z_ret (w := some (vI x2)) I (fun g => gk1 _ g ax2) ⟨_, rfl⟩ D_Exam_nearOnes_1.2.2.2.2 rfl
    · refine z_s I (s_iload_n (pc' := 13) 3 rfl D_Exam_nearOnes_0.2.1.1.1 rfl rfl) ?_
      refine z_s I (s_iconst (pc' := 14) D_Exam_nearOnes_0.2.1.1.2 rfl) ?_
      refine z_s I (s_iadd (pc' := 15) D_Exam_nearOnes_0.2.1.2.1 rfl) ?_
      refine z_bI (inR_w32 _) (fun v9 e10 f11 => ?_)
      refine z_s I (s_istore (pc' := 17) (lv' := [(4, vI v9), (0, vR ad o), (1, vI x1), (2, vI x2), (3, vI x3)]) D_Exam_nearOnes_0.2.1.2.2 (by decide) rfl rfl) ?_
      refine z_s I (s_lv (lv' := [(0, vR ad o), (1, vI x1), (3, vI x3), (2, vI x2), (4, vI v9)]) [1, 2, 4, 3, 0] rfl) ?_
      exact L17 _ ax3 _ ⟨ax2, f11⟩
  have main : Z Y (m_Exam_nearOnes o x1 h) G0 h 0 [(0, vR ad o), (1, vI x1)] [] := by
    unfold m_Exam_nearOnes
    refine z_s I (s_iconst (pc' := 1) D_Exam_nearOnes_0.1.1.1.1 rfl) ?_
    refine z_s I (s_istore_n (pc' := 2) (lv' := [(2, vI 0), (0, vR ad o), (1, vI x1)]) D_Exam_nearOnes_0.1.1.1.2 rfl (by decide) rfl rfl) ?_
    refine z_s I (s_iconst (pc' := 3) D_Exam_nearOnes_0.1.1.2.1 rfl) ?_
    refine z_s I (s_istore_n (pc' := 4) (lv' := [(3, vI 0), (2, vI 0), (0, vR ad o), (1, vI x1)]) D_Exam_nearOnes_0.1.1.2.2 rfl (by decide) rfl rfl) ?_
    refine z_s I (s_lv (lv' := [(0, vR ad o), (1, vI x1), (2, vI 0), (3, vI 0)]) [2, 3, 1, 0] rfl) ?_
    exact L4 _ ⟨(b01.R bz0), (b01.R bz0)⟩
  exact main _ hF (by rw [hG0])
set_option maxHeartbeats 4000000 in
set_option maxRecDepth 20000 in
theorem c_Exam_pairsInReach {l : Launch} {τ : TP} {o : Int} {h : HP} {r : Int} (hw : wf τ) (ao : ok τ (4, 1) o) (hh : hr τ h) (hF : m_Exam_pairsInReach o h = some r) : Ctr l y_Exam_pairsInReach k_Exam_pairsInReach 1 (Option.some FieldType.int) 3 68 τ (fun ad => [vR ad o]) h (some (vI r)) h (inR r) := by
  refine ctr_of (by decide) hw hh (fun ad => Nat.le_of_ble_eq_true rfl) (fun ad K Y I hK => ?_)
  obtain ⟨G0, hG0⟩ : ∃ G : Int → Prop, G = fun x => x = r := ⟨_, rfl⟩
  have gk0 : ∀ (x : Int), G0 x → inR x → K (some (vI x)) h := fun x g q => by
    rw [hG0] at g
    cases g
    exact hK q
  have main : Z Y (m_Exam_pairsInReach o h) G0 h 0 [(0, vR ad o)] [] := by
    unfold m_Exam_pairsInReach
    refine z_s I (s_aload_n (pc' := 1) 0 rfl D_Exam_pairsInReach_0.1.1.1.1 rfl rfl) ?_
    refine z_getR (pc' := 4) (eI := o + 23) I g_Exam_45 ao rfl (by omega) D_Exam_pairsInReach_0.1.1.1.2 rfl ?_
    have k1 : ok τ (0, 6) (o + 23) := r_Exam_used hw ao (by omega)
    refine z_s I (s_iconst (pc' := 5) D_Exam_pairsInReach_0.1.1.2.1 rfl) ?_
    refine z_g (c := 0 ≤ (3 : Int) ∧ (3 : Int) < 6) (by decide) ?_
    refine z_iald (pc' := 6) (nI := 6) I k1 (inR_c (x := 3) rfl) rfl D_Exam_pairsInReach_0.1.1.2.2 rfl (fun c2 f3 => ?_)
    refine z_if_ne (tgt := 25) (pc' := 9) I f3 D_Exam_pairsInReach_0.1.2.1.1 rfl rfl (fun c4 => ?_) (fun c4 => ?_)
    · refine z_s I (s_aload_n (pc' := 26) 0 rfl D_Exam_pairsInReach_0.2.2.2.2 rfl rfl) ?_
      refine z_s I (s_aload_n (pc' := 27) 0 rfl D_Exam_pairsInReach_1.1.1 rfl rfl) ?_
      refine z_getR (pc' := 30) (eI := o + 23) I g_Exam_45 ao rfl (by omega) D_Exam_pairsInReach_1.1.2.1 rfl ?_
      have k5 : ok τ (0, 6) (o + 23) := r_Exam_used hw ao (by omega)
      refine z_s I (s_iconst (pc' := 31) D_Exam_pairsInReach_1.1.2.2 rfl) ?_
      refine z_g (c := 0 ≤ (3 : Int) ∧ (3 : Int) < 6) (by decide) ?_
      refine z_iald (pc' := 32) (nI := 6) I k5 (inR_c (x := 3) rfl) rfl D_Exam_pairsInReach_1.2.1 rfl (fun c6 f7 => ?_)
      refine z_b1 (fun r10 q9 => ?_)
      refine z_callV (pc' := 35) I mv_Exam_nearOnes ml_Exam_112 (fun ad => [vI (h (o + 23) 3)]) ⟨Nat.le_of_ble_eq_true rfl, Nat.le_of_ble_eq_true rfl⟩ ao (fun hh => c_Exam_nearOnes hw ao f7 hh q9) rfl rfl (Nat.le_of_ble_eq_true rfl) D_Exam_pairsInReach_1.2.2.1 rfl (fun f8 => ?_)
      exact z_ret (w := some (vI r10)) I (fun g => gk0 _ g f8) ⟨_, rfl⟩ D_Exam_pairsInReach_1.2.2.2 rfl
    · refine z_s I (s_aload_n (pc' := 10) 0 rfl D_Exam_pairsInReach_0.1.2.1.2 rfl rfl) ?_
      refine z_getI (pc' := 13) (jI := 1) I g_Exam_15 ao rfl rfl D_Exam_pairsInReach_0.1.2.2.1 rfl (fun f11 => ?_)
      refine z_s I (s_aload_n (pc' := 14) 0 rfl D_Exam_pairsInReach_0.1.2.2.2 rfl rfl) ?_
      refine z_getI (pc' := 17) (jI := 1) I g_Exam_15 ao rfl rfl D_Exam_pairsInReach_0.2.1.1.1 rfl (fun f12 => ?_)
      refine z_s I (s_iconst (pc' := 18) D_Exam_pairsInReach_0.2.1.1.2 rfl) ?_
      refine z_s I (s_isub (pc' := 19) D_Exam_pairsInReach_0.2.1.2.1 rfl) ?_
      refine z_s I (s_imul (pc' := 20) D_Exam_pairsInReach_0.2.1.2.2 rfl) ?_
      refine z_s I (s_iconst (pc' := 21) D_Exam_pairsInReach_0.2.2.1.1 rfl) ?_
      refine z_idiv (pc' := 22) I (inR_c (x := 2) rfl) D_Exam_pairsInReach_0.2.2.1.2 rfl (fun c13 => ?_)
      refine z_s I (s_goto (tgt := 35) D_Exam_pairsInReach_0.2.2.2.1 rfl) ?_
      exact z_ret (w := some (vI (iDiv (w32 ((h o 1) * (w32 ((h o 1) - 1)))) 2))) I (fun g => gk0 _ g (r_iDiv _ _)) ⟨_, rfl⟩ D_Exam_pairsInReach_1.2.2.2 rfl
  exact main _ hF (by rw [hG0])
set_option maxHeartbeats 4000000 in
set_option maxRecDepth 20000 in
theorem c_Exam_inReach {l : Launch} {τ : TP} {o : Int} {x1 : Int} {x2 : Int} {h : HP} {r : Int} (hw : wf τ) (ao : ok τ (4, 1) o) (ax1 : inR x1) (ax2 : inR x2) (hh : hr τ h) (hF : m_Exam_inReach o x1 x2 h = some r) : Ctr l y_Exam_inReach k_Exam_inReach 3 (Option.some FieldType.boolean) 2 44 τ (fun ad => [vR ad o, vI x1, vI x2]) h (some (vI r)) h (b01 r) := by
  refine ctr_of (by decide) hw hh (fun ad => Nat.le_of_ble_eq_true rfl) (fun ad K Y I hK => ?_)
  obtain ⟨G0, hG0⟩ : ∃ G : Int → Prop, G = fun x => x = r := ⟨_, rfl⟩
  have gk0 : ∀ (x : Int), G0 x → b01 x → K (some (vI x)) h := fun x g q => by
    rw [hG0] at g
    cases g
    exact hK q
  have main : Z Y (m_Exam_inReach o x1 x2 h) G0 h 0 [(0, vR ad o), (1, vI x1), (2, vI x2)] [] := by
    unfold m_Exam_inReach
    refine z_s I (s_aload_n (pc' := 1) 0 rfl D_Exam_inReach_0.1.1.1.1 rfl rfl) ?_
    refine z_getR (pc' := 4) (eI := o + 23) I g_Exam_45 ao rfl (by omega) D_Exam_inReach_0.1.1.1.2 rfl ?_
    have k1 : ok τ (0, 6) (o + 23) := r_Exam_used hw ao (by omega)
    refine z_s I (s_iconst (pc' := 5) D_Exam_inReach_0.1.1.2.1 rfl) ?_
    refine z_g (c := 0 ≤ (3 : Int) ∧ (3 : Int) < 6) (by decide) ?_
    refine z_iald (pc' := 6) (nI := 6) I k1 (inR_c (x := 3) rfl) rfl D_Exam_inReach_0.1.1.2.2 rfl (fun c2 f3 => ?_)
    refine z_if_eq (tgt := 24) (pc' := 9) I f3 D_Exam_inReach_0.1.2.1.1 rfl rfl (fun c4 => ?_) (fun c4 => ?_)
    · refine z_s I (s_iconst (pc' := 25) D_Exam_inReach_0.2.2.2.1 rfl) ?_
      refine z_s I (s_goto (tgt := 29) D_Exam_inReach_0.2.2.2.2 rfl) ?_
      exact z_ret (w := some (vI 1)) I (fun g => gk0 _ g bz1) ⟨_, bz1, rfl⟩ D_Exam_inReach_1.2 rfl
    · refine z_s I (s_aload_n (pc' := 10) 0 rfl D_Exam_inReach_0.1.2.1.2 rfl rfl) ?_
      refine z_s I (s_iload_n (pc' := 11) 1 rfl D_Exam_inReach_0.1.2.2.1 rfl rfl) ?_
      refine z_s I (s_iload_n (pc' := 12) 2 rfl D_Exam_inReach_0.1.2.2.2 rfl rfl) ?_
      refine z_s I (s_aload_n (pc' := 13) 0 rfl D_Exam_inReach_0.2.1.1.1 rfl rfl) ?_
      refine z_getR (pc' := 16) (eI := o + 23) I g_Exam_45 ao rfl (by omega) D_Exam_inReach_0.2.1.1.2 rfl ?_
      have k5 : ok τ (0, 6) (o + 23) := r_Exam_used hw ao (by omega)
      refine z_s I (s_iconst (pc' := 17) D_Exam_inReach_0.2.1.2.1 rfl) ?_
      refine z_g (c := 0 ≤ (3 : Int) ∧ (3 : Int) < 6) (by decide) ?_
      refine z_iald (pc' := 18) (nI := 6) I k5 (inR_c (x := 3) rfl) rfl D_Exam_inReach_0.2.1.2.2 rfl (fun c6 f7 => ?_)
      refine z_b1 (fun r10 q9 => ?_)
      refine z_callV (pc' := 21) I mv_Exam_near ml_Exam_108 (fun ad => [vI x1, vI x2, vI (h (o + 23) 3)]) ⟨Nat.le_of_ble_eq_true rfl, Nat.le_of_ble_eq_true rfl⟩ ao (fun hh => c_Exam_near hw ao ax1 ax2 f7 hh q9) rfl rfl (Nat.le_of_ble_eq_true rfl) D_Exam_inReach_0.2.2.1.1 rfl (fun f8 => ?_)
      refine z_if_eq (tgt := 28) (pc' := 24) I (b01.R f8) D_Exam_inReach_0.2.2.1.2 rfl rfl (fun c11 => ?_) (fun c11 => ?_)
      · refine z_s I (s_iconst (pc' := 29) D_Exam_inReach_1.1 rfl) ?_
        exact z_ret (w := some (vI 0)) I (fun g => gk0 _ g bz0) ⟨_, bz0, rfl⟩ D_Exam_inReach_1.2 rfl
      · refine z_s I (s_iconst (pc' := 25) D_Exam_inReach_0.2.2.2.1 rfl) ?_
        refine z_s I (s_goto (tgt := 29) D_Exam_inReach_0.2.2.2.2 rfl) ?_
        exact z_ret (w := some (vI 1)) I (fun g => gk0 _ g bz1) ⟨_, bz1, rfl⟩ D_Exam_inReach_1.2 rfl
  exact main _ hF (by rw [hG0])
set_option maxHeartbeats 4000000 in
set_option maxRecDepth 20000 in
theorem c_Ranking_weighPair {l : Launch} {τ : TP} {o : Int} {r1 : Int} {r2 : Int} {x3 : Int} {x4 : Int} {x5 : Int} {h : HP} {h' : HP} (hw : wf τ) (ao : ok τ (4, 4) o) (ar1 : ok τ (4, 1) r1) (ar2 : ok τ (4, 3) r2) (ax3 : inR x3) (ax4 : inR x4) (ax5 : inR x5) (hh : hr τ h) (hF : m_Ranking_weighPair o r1 r2 x3 x4 x5 h = some h') : Ctr l y_Ranking_weighPair k_Ranking_weighPair 6 (Option.none : Option FieldType) 3 88 τ (fun ad => [vR ad o, vR ad r1, vR ad r2, vI x3, vI x4, vI x5]) h none h' (True) := by
  refine ctr_of (by decide) hw hh (fun ad => Nat.le_of_ble_eq_true rfl) (fun ad K Y I hK => ?_)
  obtain ⟨G0, hG0⟩ : ∃ G : HP → Prop, G = fun x => x = h' := ⟨_, rfl⟩
  have gk0 : ∀ (x : HP), G0 x → K none x := fun x g => by
    rw [hG0] at g
    cases g
    exact hK trivial
  have J31 : ∀ (h : HP), Z Y (m_Ranking_weighPair_J31 o r1 r2 x3 x4 x5 h) G0 h 31 [(0, vR ad o), (1, vR ad r1), (2, vR ad r2), (3, vI x3), (4, vI x4), (5, vI x5)] [] := by
    intro h
    unfold m_Ranking_weighPair_J31
    refine z_s I (s_aload_n (pc' := 32) 2 rfl D_Ranking_weighPair_1.1.1.1.2 rfl rfl) ?_
    refine z_s I (s_aload_n (pc' := 33) 1 rfl D_Ranking_weighPair_1.1.1.2.1 rfl rfl) ?_
    refine z_s I (s_iload (pc' := 35) 4 rfl D_Ranking_weighPair_1.1.1.2.2 rfl) ?_
    refine z_s I (s_iload_n (pc' := 36) 3 rfl D_Ranking_weighPair_1.1.2.1.1 rfl rfl) ?_
    refine z_s I (s_iload (pc' := 38) 5 rfl D_Ranking_weighPair_1.1.2.1.2 rfl) ?_
    refine z_s I (s_iconst (pc' := 39) D_Ranking_weighPair_1.1.2.2.1 rfl) ?_
    refine z_b1 (fun h3 q2 => ?_)
    refine z_callV (pc' := 42) I mv_Odds_spread ml_Ranking_90 (fun ad => [vR ad r1, vI x4, vI x3, vI x5, vI (-1)]) ⟨Nat.le_of_ble_eq_true rfl, Nat.le_of_ble_eq_true rfl⟩ ar2 (fun hh => c_Odds_spread hw ar2 ar1 ax4 ax3 ax5 (inR_c (x := (-1)) rfl) hh q2) rfl rfl (Nat.le_of_ble_eq_true rfl) D_Ranking_weighPair_1.1.2.2.2 rfl (fun f1 => ?_)
    refine z_s I (s_aload_n (pc' := 43) 2 rfl D_Ranking_weighPair_1.2.1.1.1 rfl rfl) ?_
    refine z_s I (s_aload_n (pc' := 44) 0 rfl D_Ranking_weighPair_1.2.1.1.2 rfl rfl) ?_
    refine z_getR (pc' := 47) (eI := o + 6) I g_Ranking_39 ao rfl (by omega) D_Ranking_weighPair_1.2.1.2.1 rfl ?_
    have k4 : ok τ (4, 5) (o + 6) := r_Ranking_turned hw ao (by omega)
    refine z_b1 (fun h7 q6 => ?_)
    refine z_callV (pc' := 50) I mv_Odds_asGreat ml_Ranking_96 (fun ad => [vR ad (o + 6)]) ⟨Nat.le_of_ble_eq_true rfl, Nat.le_of_ble_eq_true rfl⟩ ar2 (fun hh => c_Odds_asGreat hw ar2 k4 hh q6) rfl rfl (Nat.le_of_ble_eq_true rfl) D_Ranking_weighPair_1.2.1.2.2 rfl (fun f5 => ?_)
    refine z_s I (s_aload_n (pc' := 51) 0 rfl D_Ranking_weighPair_1.2.2.1.1 rfl rfl) ?_
    refine z_getR (pc' := 54) (eI := o + 6) I g_Ranking_39 ao rfl (by omega) D_Ranking_weighPair_1.2.2.1.2 rfl ?_
    have k8 : ok τ (4, 5) (o + 6) := r_Ranking_turned hw ao (by omega)
    refine z_s I (s_aload_n (pc' := 55) 0 rfl D_Ranking_weighPair_1.2.2.2.1 rfl rfl) ?_
    refine z_getR (pc' := 58) (eI := o + 5) I g_Ranking_35 ao rfl (by omega) D_Ranking_weighPair_1.2.2.2.2 rfl ?_
    have k9 : ok τ (4, 5) (o + 5) := r_Ranking_one hw ao (by omega)
    refine z_b1 (fun r12 q11 => ?_)
    refine z_callV (pc' := 61) I mv_Ratio_against ml_Ranking_100 (fun ad => [vR ad (o + 5)]) ⟨Nat.le_of_ble_eq_true rfl, Nat.le_of_ble_eq_true rfl⟩ k8 (fun hh => c_Ratio_against hw k8 k9 hh q11) rfl rfl (Nat.le_of_ble_eq_true rfl) D_Ranking_weighPair_2.1.1.1 rfl (fun f10 => ?_)
    refine z_if_ge (tgt := 75) (pc' := 64) I f10 D_Ranking_weighPair_2.1.1.2 rfl rfl (fun c13 => ?_) (fun c13 => ?_)
    · exact z_ret (w := none) I (fun g => gk0 _ g) rfl D_Ranking_weighPair_2.2.2.2 rfl
    · refine z_s I (s_aload_n (pc' := 65) 0 rfl D_Ranking_weighPair_2.1.2.1 rfl rfl) ?_
      refine z_getR (pc' := 68) (eI := o + 5) I g_Ranking_35 ao rfl (by omega) D_Ranking_weighPair_2.1.2.2 rfl ?_
      have k14 : ok τ (4, 5) (o + 5) := r_Ranking_one hw ao (by omega)
      refine z_s I (s_aload_n (pc' := 69) 0 rfl D_Ranking_weighPair_2.2.1.1 rfl rfl) ?_
      refine z_getR (pc' := 72) (eI := o + 6) I g_Ranking_39 ao rfl (by omega) D_Ranking_weighPair_2.2.1.2 rfl ?_
      have k15 : ok τ (4, 5) (o + 6) := r_Ranking_turned hw ao (by omega)
      refine z_b1 (fun h18 q17 => ?_)
      refine z_callV (pc' := 75) I mv_Ratio_copy ml_Ranking_104 (fun ad => [vR ad (o + 6)]) ⟨Nat.le_of_ble_eq_true rfl, Nat.le_of_ble_eq_true rfl⟩ k14 (fun hh => c_Ratio_copy hw k14 k15 hh q17) rfl rfl (Nat.le_of_ble_eq_true rfl) D_Ranking_weighPair_2.2.2.1 rfl (fun f16 => ?_)
      exact z_ret (w := none) I (fun g => gk0 _ g) rfl D_Ranking_weighPair_2.2.2.2 rfl
  have main : Z Y (m_Ranking_weighPair o r1 r2 x3 x4 x5 h) G0 h 0 [(0, vR ad o), (1, vR ad r1), (2, vR ad r2), (3, vI x3), (4, vI x4), (5, vI x5)] [] := by
    unfold m_Ranking_weighPair
    refine z_s I (s_aload_n (pc' := 1) 2 rfl D_Ranking_weighPair_0.1.1.1.1 rfl rfl) ?_
    refine z_s I (s_aload_n (pc' := 2) 1 rfl D_Ranking_weighPair_0.1.1.1.2 rfl rfl) ?_
    refine z_s I (s_iload_n (pc' := 3) 3 rfl D_Ranking_weighPair_0.1.1.2.1 rfl rfl) ?_
    refine z_s I (s_iload (pc' := 5) 4 rfl D_Ranking_weighPair_0.1.1.2.2 rfl) ?_
    refine z_s I (s_iload (pc' := 7) 5 rfl D_Ranking_weighPair_0.1.2.1.1 rfl) ?_
    refine z_s I (s_iconst (pc' := 8) D_Ranking_weighPair_0.1.2.1.2 rfl) ?_
    refine z_b1 (fun h21 q20 => ?_)
    refine z_callV (pc' := 11) I mv_Odds_spread ml_Ranking_90 (fun ad => [vR ad r1, vI x3, vI x4, vI x5, vI (-1)]) ⟨Nat.le_of_ble_eq_true rfl, Nat.le_of_ble_eq_true rfl⟩ ar2 (fun hh => c_Odds_spread hw ar2 ar1 ax3 ax4 ax5 (inR_c (x := (-1)) rfl) hh q20) rfl rfl (Nat.le_of_ble_eq_true rfl) D_Ranking_weighPair_0.1.2.2.1 rfl (fun f19 => ?_)
    refine z_s I (s_aload_n (pc' := 12) 2 rfl D_Ranking_weighPair_0.1.2.2.2 rfl rfl) ?_
    refine z_s I (s_aload_n (pc' := 13) 0 rfl D_Ranking_weighPair_0.2.1.1.1 rfl rfl) ?_
    refine z_getR (pc' := 16) (eI := o + 5) I g_Ranking_35 ao rfl (by omega) D_Ranking_weighPair_0.2.1.1.2 rfl ?_
    have k22 : ok τ (4, 5) (o + 5) := r_Ranking_one hw ao (by omega)
    refine z_b1 (fun h25 q24 => ?_)
    refine z_callV (pc' := 19) I mv_Odds_asGreat ml_Ranking_96 (fun ad => [vR ad (o + 5)]) ⟨Nat.le_of_ble_eq_true rfl, Nat.le_of_ble_eq_true rfl⟩ ar2 (fun hh => c_Odds_asGreat hw ar2 k22 hh q24) rfl rfl (Nat.le_of_ble_eq_true rfl) D_Ranking_weighPair_0.2.1.2.1 rfl (fun f23 => ?_)
    refine z_s I (s_iload (pc' := 21) 5 rfl D_Ranking_weighPair_0.2.1.2.2 rfl) ?_
    refine z_s I (s_iconst (pc' := 22) D_Ranking_weighPair_0.2.2.1.1 rfl) ?_
    refine z_icmp_eq (tgt := 31) (pc' := 25) I ax5 (inR_c (x := 2) rfl) D_Ranking_weighPair_0.2.2.1.2 rfl rfl (fun c26 => ?_) (fun c26 => ?_)
    · exact J31 _
    · refine z_s I (s_iload (pc' := 27) 5 rfl D_Ranking_weighPair_0.2.2.2.1 rfl) ?_
      refine z_s I (s_iconst (pc' := 28) D_Ranking_weighPair_0.2.2.2.2 rfl) ?_
      refine z_icmp_ne (tgt := 75) (pc' := 31) I ax5 (inR_c (x := 3) rfl) D_Ranking_weighPair_1.1.1.1.1 rfl rfl (fun c27 => ?_) (fun c27 => ?_)
      · exact z_ret (w := none) I (fun g => gk0 _ g) rfl D_Ranking_weighPair_2.2.2.2 rfl
      · exact J31 _
  exact main _ hF (by rw [hG0])
set_option maxHeartbeats 4000000 in
set_option maxRecDepth 20000 in
theorem c_Ranking_insert {l : Launch} {τ : TP} {o : Int} {x1 : Int} {x2 : Int} {h : HP} {h' : HP} (hw : wf τ) (ao : ok τ (4, 4) o) (ax1 : inR x1) (ax2 : inR x2) (hh : hr τ h) (hF : m_Ranking_insert o x1 x2 h = some h') : Ctr l y_Ranking_insert k_Ranking_insert 4 (Option.none : Option FieldType) 1 37 τ (fun ad => [vR ad o, vI x1, vI x2]) h none h' (True) := by
  refine ctr_of (by decide) hw hh (fun ad => Nat.le_of_ble_eq_true rfl) (fun ad K Y I hK => ?_)
  obtain ⟨G0, hG0⟩ : ∃ G : HP → Prop, G = fun x => x = h' := ⟨_, rfl⟩
  have gk0 : ∀ (x : HP), G0 x → K none x := fun x g => by
    rw [hG0] at g
    cases g
    exact hK trivial
  have J109 : ∀ (x3 : Int) (ax3 : inR x3) (h : HP), Z Y (m_Ranking_insert_J109 o x1 x2 x3 h) G0 h 109 [(0, vR ad o), (1, vI x1), (2, vI x2), (3, vI x3)] [] := by
    intro x3 ax3 h
    unfold m_Ranking_insert_J109
    refine z_s I (s_aload_n (pc' := 110) 0 rfl D_Ranking_insert_4.1.2.1.2 rfl rfl) ?_
    refine z_getR (pc' := 113) (eI := o + 1) I g_Ranking_18 ao rfl (by omega) D_Ranking_insert_4.1.2.2.1 rfl ?_
    have k1 : ok τ (0, 28) (o + 1) := r_Ranking_lower hw ao (by omega)
    refine z_s I (s_iload_n (pc' := 114) 3 rfl D_Ranking_insert_4.1.2.2.2 rfl rfl) ?_
    refine z_s I (s_iload_n (pc' := 115) 1 rfl D_Ranking_insert_4.2.1.1.1 rfl rfl) ?_
    refine z_iast (pc' := 116) (nI := 28) I k1 ax3 ax1 rfl D_Ranking_insert_4.2.1.1.2 rfl (fun c2 => ?_)
    refine z_bH (fun h3 e4 => ?_)
    refine z_s I (s_aload_n (pc' := 117) 0 rfl D_Ranking_insert_4.2.1.2.1 rfl rfl) ?_
    refine z_getR (pc' := 120) (eI := o + 2) I g_Ranking_22 ao rfl (by omega) D_Ranking_insert_4.2.1.2.2 rfl ?_
    have k5 : ok τ (0, 28) (o + 2) := r_Ranking_upper hw ao (by omega)
    refine z_s I (s_iload_n (pc' := 121) 3 rfl D_Ranking_insert_4.2.2.1.1 rfl rfl) ?_
    refine z_s I (s_iload_n (pc' := 122) 2 rfl D_Ranking_insert_4.2.2.1.2 rfl rfl) ?_
    refine z_iast (pc' := 123) (nI := 28) I k5 ax3 ax2 rfl D_Ranking_insert_4.2.2.2.1 rfl (fun c6 => ?_)
    refine z_bH (fun h7 e8 => ?_)
    refine z_s I (s_aload_n (pc' := 124) 0 rfl D_Ranking_insert_4.2.2.2.2 rfl rfl) ?_
    refine z_getR (pc' := 127) (eI := o + 3) I g_Ranking_25 ao rfl (by omega) D_Ranking_insert_5.1.1.1.1 rfl ?_
    have k9 : ok τ (1, 28) (o + 3) := r_Ranking_above hw ao (by omega)
    refine z_s I (s_iload_n (pc' := 128) 3 rfl D_Ranking_insert_5.1.1.1.2 rfl rfl) ?_
    refine z_s I (s_aload_n (pc' := 129) 0 rfl D_Ranking_insert_5.1.1.2.1 rfl rfl) ?_
    refine z_getR (pc' := 132) (eI := o + 5) I g_Ranking_35 ao rfl (by omega) D_Ranking_insert_5.1.1.2.2 rfl ?_
    have k10 : ok τ (4, 5) (o + 5) := r_Ranking_one hw ao (by omega)
    refine z_s I (s_iconst (pc' := 133) D_Ranking_insert_5.1.2.1.1 rfl) ?_
    refine z_b1 (fun r13 q12 => ?_)
    refine z_callV (pc' := 136) I mv_Ratio_half ml_Ranking_107 (fun ad => [vI 0]) ⟨Nat.le_of_ble_eq_true rfl, Nat.le_of_ble_eq_true rfl⟩ k10 (fun hh => c_Ratio_half hw k10 (b01.R bz0) hh q12) rfl rfl (Nat.le_of_ble_eq_true rfl) D_Ranking_insert_5.1.2.1.2 rfl (fun f11 => ?_)
    refine z_last (pc' := 137) (nI := 28) I k9 ax3 f11 rfl D_Ranking_insert_5.1.2.2.1 rfl (fun c14 => ?_)
    refine z_bH (fun h15 e16 => ?_)
    refine z_s I (s_aload_n (pc' := 138) 0 rfl D_Ranking_insert_5.1.2.2.2 rfl rfl) ?_
    refine z_getR (pc' := 141) (eI := o + 4) I g_Ranking_29 ao rfl (by omega) D_Ranking_insert_5.2.1.1.1 rfl ?_
    have k17 : ok τ (1, 28) (o + 4) := r_Ranking_below hw ao (by omega)
    refine z_s I (s_iload_n (pc' := 142) 3 rfl D_Ranking_insert_5.2.1.1.2 rfl rfl) ?_
    refine z_s I (s_aload_n (pc' := 143) 0 rfl D_Ranking_insert_5.2.1.2.1 rfl rfl) ?_
    refine z_getR (pc' := 146) (eI := o + 5) I g_Ranking_35 ao rfl (by omega) D_Ranking_insert_5.2.1.2.2 rfl ?_
    have k18 : ok τ (4, 5) (o + 5) := r_Ranking_one hw ao (by omega)
    refine z_s I (s_iconst (pc' := 147) D_Ranking_insert_5.2.2.1.1 rfl) ?_
    refine z_b1 (fun r21 q20 => ?_)
    refine z_callV (pc' := 150) I mv_Ratio_half ml_Ranking_107 (fun ad => [vI 1]) ⟨Nat.le_of_ble_eq_true rfl, Nat.le_of_ble_eq_true rfl⟩ k18 (fun hh => c_Ratio_half hw k18 (b01.R bz1) hh q20) rfl rfl (Nat.le_of_ble_eq_true rfl) D_Ranking_insert_5.2.2.1.2 rfl (fun f19 => ?_)
    refine z_last (pc' := 151) (nI := 28) I k17 ax3 f19 rfl D_Ranking_insert_5.2.2.2.1 rfl (fun c22 => ?_)
    refine z_bH (fun h23 e24 => ?_)
    refine z_s I (s_aload_n (pc' := 152) 0 rfl D_Ranking_insert_5.2.2.2.2 rfl rfl) ?_
    refine z_s I (s_dup (pc' := 153) rfl D_Ranking_insert_6.1.1 rfl) ?_
    refine z_getI (pc' := 156) (jI := 0) I g_Ranking_9 ao rfl rfl D_Ranking_insert_6.1.2.1 rfl (fun f25 => ?_)
    refine z_s I (s_iconst (pc' := 157) D_Ranking_insert_6.1.2.2 rfl) ?_
    refine z_s I (s_iadd (pc' := 158) D_Ranking_insert_6.2.1 rfl) ?_
    refine z_putI (pc' := 161) (jI := 0) I p_Ranking_9 ao rfl rfl (inR_w32 _) D_Ranking_insert_6.2.2.1 rfl ?_
    refine z_bH (fun h26 e27 => ?_)
    exact z_ret (w := none) I (fun g => gk0 _ g) rfl D_Ranking_insert_6.2.2.2 rfl
  have L5 : ∀ (s : Int × HP), (inR (s.1)) → Z Y (m_Ranking_insert_L5 o x1 x2 s) G0 (s.2) 5 [(0, vR ad o), (1, vI x1), (2, vI x2), (3, vI (s.1))] [] := by
    intro s hs
    refine z_loop (G := G0) (hO := fun s : Int × HP => s.2) (lO := fun s : Int × HP => [(0, vR ad o), (1, vI x1), (2, vI x2), (3, vI (s.1))]) (Φ := fun s : Int × HP => inR (s.1)) (fun G1 hin1_1 hout1 s hs => ?_) FUEL s hs
    obtain ⟨x3, h⟩ := s
    have ax3 := hs
    have gk1 := fun (x : HP) (g : G1 (.inr (x))) => gk0 x (hout1 _ g)
    show Z Y (m_Ranking_insert_L5b o x1 x2 x3 h) G1 h 5 [(0, vR ad o), (1, vI x1), (2, vI x2), (3, vI x3)] []
    unfold m_Ranking_insert_L5b
    refine z_s I (s_iload_n (pc' := 6) 3 rfl D_Ranking_insert_0.1.1.2.2 rfl rfl) ?_
    refine z_if_le (tgt := 109) (pc' := 9) I ax3 D_Ranking_insert_0.1.2.1.1 rfl rfl (fun c28 => ?_) (fun c28 => ?_)
    · refine z_map _ (fun x g => hout1 x g) ?_
      exact J109 _ ax3 _
    · refine z_s I (s_aload_n (pc' := 10) 0 rfl D_Ranking_insert_0.1.2.1.2 rfl rfl) ?_
      refine z_getR (pc' := 13) (eI := o + 5) I g_Ranking_35 ao rfl (by omega) D_Ranking_insert_0.1.2.2.1 rfl ?_
      have k29 : ok τ (4, 5) (o + 5) := r_Ranking_one hw ao (by omega)
      refine z_s I (s_iconst (pc' := 14) D_Ranking_insert_0.1.2.2.2 rfl) ?_
      refine z_b1 (fun r32 q31 => ?_)
      refine z_callV (pc' := 17) I mv_Ratio_half ml_Ranking_107 (fun ad => [vI 0]) ⟨Nat.le_of_ble_eq_true rfl, Nat.le_of_ble_eq_true rfl⟩ k29 (fun hh => c_Ratio_half hw k29 (b01.R bz0) hh q31) rfl rfl (Nat.le_of_ble_eq_true rfl) D_Ranking_insert_0.2.1.1.1 rfl (fun f30 => ?_)
      refine z_s I (s_aload_n (pc' := 18) 0 rfl D_Ranking_insert_0.2.1.1.2 rfl rfl) ?_
      refine z_getR (pc' := 21) (eI := o + 5) I g_Ranking_35 ao rfl (by omega) D_Ranking_insert_0.2.1.2.1 rfl ?_
      have k33 : ok τ (4, 5) (o + 5) := r_Ranking_one hw ao (by omega)
      refine z_s I (s_iconst (pc' := 22) D_Ranking_insert_0.2.1.2.2 rfl) ?_
      refine z_b1 (fun r36 q35 => ?_)
      refine z_callV (pc' := 25) I mv_Ratio_half ml_Ranking_107 (fun ad => [vI 1]) ⟨Nat.le_of_ble_eq_true rfl, Nat.le_of_ble_eq_true rfl⟩ k33 (fun hh => c_Ratio_half hw k33 (b01.R bz1) hh q35) rfl rfl (Nat.le_of_ble_eq_true rfl) D_Ranking_insert_0.2.2.1.1 rfl (fun f34 => ?_)
      refine z_s I (s_aload_n (pc' := 26) 0 rfl D_Ranking_insert_0.2.2.1.2 rfl rfl) ?_
      refine z_getR (pc' := 29) (eI := o + 3) I g_Ranking_25 ao rfl (by omega) D_Ranking_insert_0.2.2.2.1 rfl ?_
      have k37 : ok τ (1, 28) (o + 3) := r_Ranking_above hw ao (by omega)
      refine z_s I (s_iload_n (pc' := 30) 3 rfl D_Ranking_insert_0.2.2.2.2 rfl rfl) ?_
      refine z_s I (s_iconst (pc' := 31) D_Ranking_insert_1.1.1.1.1 rfl) ?_
      refine z_s I (s_isub (pc' := 32) D_Ranking_insert_1.1.1.1.2 rfl) ?_
      refine z_lald (pc' := 33) (nI := 28) I k37 (inR_w32 _) rfl D_Ranking_insert_1.1.1.2.1 rfl (fun c38 f39 => ?_)
      refine z_s I (s_aload_n (pc' := 34) 0 rfl D_Ranking_insert_1.1.1.2.2 rfl rfl) ?_
      refine z_getR (pc' := 37) (eI := o + 4) I g_Ranking_29 ao rfl (by omega) D_Ranking_insert_1.1.2.1.1 rfl ?_
      have k40 : ok τ (1, 28) (o + 4) := r_Ranking_below hw ao (by omega)
      refine z_s I (s_iload_n (pc' := 38) 3 rfl D_Ranking_insert_1.1.2.1.2 rfl rfl) ?_
      refine z_s I (s_iconst (pc' := 39) D_Ranking_insert_1.1.2.2.1 rfl) ?_
      refine z_s I (s_isub (pc' := 40) D_Ranking_insert_1.1.2.2.2 rfl) ?_
      refine z_lald (pc' := 41) (nI := 28) I k40 (inR_w32 _) rfl D_Ranking_insert_1.2.1.1.1 rfl (fun c41 f42 => ?_)
      refine z_b1 (fun r45 q44 => ?_)
      refine z_callS (pc' := 44) I mv_Ratio_compare ml_Ranking_111 (fun ad => [vL r32, vL r36, vL (h (o + 3) (w32 (x3 - 1))), vL (h (o + 4) (w32 (x3 - 1)))]) ⟨Nat.le_of_ble_eq_true rfl, Nat.le_of_ble_eq_true rfl⟩ (fun hh => c_Ratio_compare hw f30 f34 f39 f42 hh q44) rfl rfl (Nat.le_of_ble_eq_true rfl) D_Ranking_insert_1.2.1.1.2 rfl (fun f43 => ?_)
      refine z_if_ge (tgt := 109) (pc' := 47) I f43 D_Ranking_insert_1.2.1.2.1 rfl rfl (fun c46 => ?_) (fun c46 => ?_)
      · refine z_map _ (fun x g => hout1 x g) ?_
        exact J109 _ ax3 _
      · refine z_s I (s_aload_n (pc' := 48) 0 rfl D_Ranking_insert_1.2.1.2.2 rfl rfl) ?_
        refine z_getR (pc' := 51) (eI := o + 1) I g_Ranking_18 ao rfl (by omega) D_Ranking_insert_1.2.2.1.1 rfl ?_
        have k47 : ok τ (0, 28) (o + 1) := r_Ranking_lower hw ao (by omega)
        refine z_s I (s_iload_n (pc' := 52) 3 rfl D_Ranking_insert_1.2.2.1.2 rfl rfl) ?_
        refine z_s I (s_aload_n (pc' := 53) 0 rfl D_Ranking_insert_1.2.2.2.1 rfl rfl) ?_
        refine z_getR (pc' := 56) (eI := o + 1) I g_Ranking_18 ao rfl (by omega) D_Ranking_insert_1.2.2.2.2 rfl ?_
        have k48 : ok τ (0, 28) (o + 1) := r_Ranking_lower hw ao (by omega)
        refine z_s I (s_iload_n (pc' := 57) 3 rfl D_Ranking_insert_2.1.1.1.1 rfl rfl) ?_
        refine z_s I (s_iconst (pc' := 58) D_Ranking_insert_2.1.1.1.2 rfl) ?_
        refine z_s I (s_isub (pc' := 59) D_Ranking_insert_2.1.1.2.1 rfl) ?_
        refine z_iald (pc' := 60) (nI := 28) I k48 (inR_w32 _) rfl D_Ranking_insert_2.1.1.2.2 rfl (fun c49 f50 => ?_)
        refine z_iast (pc' := 61) (nI := 28) I k47 ax3 f50 rfl D_Ranking_insert_2.1.2.1.1 rfl (fun c51 => ?_)
        refine z_bH (fun h52 e53 => ?_)
        refine z_s I (s_aload_n (pc' := 62) 0 rfl D_Ranking_insert_2.1.2.1.2 rfl rfl) ?_
        refine z_getR (pc' := 65) (eI := o + 2) I g_Ranking_22 ao rfl (by omega) D_Ranking_insert_2.1.2.2.1 rfl ?_
        have k54 : ok τ (0, 28) (o + 2) := r_Ranking_upper hw ao (by omega)
        refine z_s I (s_iload_n (pc' := 66) 3 rfl D_Ranking_insert_2.1.2.2.2 rfl rfl) ?_
        refine z_s I (s_aload_n (pc' := 67) 0 rfl D_Ranking_insert_2.2.1.1.1 rfl rfl) ?_
        refine z_getR (pc' := 70) (eI := o + 2) I g_Ranking_22 ao rfl (by omega) D_Ranking_insert_2.2.1.1.2 rfl ?_
        have k55 : ok τ (0, 28) (o + 2) := r_Ranking_upper hw ao (by omega)
        refine z_s I (s_iload_n (pc' := 71) 3 rfl D_Ranking_insert_2.2.1.2.1 rfl rfl) ?_
        refine z_s I (s_iconst (pc' := 72) D_Ranking_insert_2.2.1.2.2 rfl) ?_
        refine z_s I (s_isub (pc' := 73) D_Ranking_insert_2.2.2.1.1 rfl) ?_
        refine z_iald (pc' := 74) (nI := 28) I k55 (inR_w32 _) rfl D_Ranking_insert_2.2.2.1.2 rfl (fun c56 f57 => ?_)
        refine z_iast (pc' := 75) (nI := 28) I k54 ax3 f57 rfl D_Ranking_insert_2.2.2.2.1 rfl (fun c58 => ?_)
        refine z_bH (fun h59 e60 => ?_)
        refine z_s I (s_aload_n (pc' := 76) 0 rfl D_Ranking_insert_2.2.2.2.2 rfl rfl) ?_
        refine z_getR (pc' := 79) (eI := o + 3) I g_Ranking_25 ao rfl (by omega) D_Ranking_insert_3.1.1.1.1 rfl ?_
        have k61 : ok τ (1, 28) (o + 3) := r_Ranking_above hw ao (by omega)
        refine z_s I (s_iload_n (pc' := 80) 3 rfl D_Ranking_insert_3.1.1.1.2 rfl rfl) ?_
        refine z_s I (s_aload_n (pc' := 81) 0 rfl D_Ranking_insert_3.1.1.2.1 rfl rfl) ?_
        refine z_getR (pc' := 84) (eI := o + 3) I g_Ranking_25 ao rfl (by omega) D_Ranking_insert_3.1.1.2.2 rfl ?_
        have k62 : ok τ (1, 28) (o + 3) := r_Ranking_above hw ao (by omega)
        refine z_s I (s_iload_n (pc' := 85) 3 rfl D_Ranking_insert_3.1.2.1.1 rfl rfl) ?_
        refine z_s I (s_iconst (pc' := 86) D_Ranking_insert_3.1.2.1.2 rfl) ?_
        refine z_s I (s_isub (pc' := 87) D_Ranking_insert_3.1.2.2.1 rfl) ?_
        refine z_lald (pc' := 88) (nI := 28) I k62 (inR_w32 _) rfl D_Ranking_insert_3.1.2.2.2 rfl (fun c63 f64 => ?_)
        refine z_last (pc' := 89) (nI := 28) I k61 ax3 f64 rfl D_Ranking_insert_3.2.1.1.1 rfl (fun c65 => ?_)
        refine z_bH (fun h66 e67 => ?_)
        refine z_s I (s_aload_n (pc' := 90) 0 rfl D_Ranking_insert_3.2.1.1.2 rfl rfl) ?_
        refine z_getR (pc' := 93) (eI := o + 4) I g_Ranking_29 ao rfl (by omega) D_Ranking_insert_3.2.1.2.1 rfl ?_
        have k68 : ok τ (1, 28) (o + 4) := r_Ranking_below hw ao (by omega)
        refine z_s I (s_iload_n (pc' := 94) 3 rfl D_Ranking_insert_3.2.1.2.2 rfl rfl) ?_
        refine z_s I (s_aload_n (pc' := 95) 0 rfl D_Ranking_insert_3.2.2.1.1 rfl rfl) ?_
        refine z_getR (pc' := 98) (eI := o + 4) I g_Ranking_29 ao rfl (by omega) D_Ranking_insert_3.2.2.1.2 rfl ?_
        have k69 : ok τ (1, 28) (o + 4) := r_Ranking_below hw ao (by omega)
        refine z_s I (s_iload_n (pc' := 99) 3 rfl D_Ranking_insert_3.2.2.2.1 rfl rfl) ?_
        refine z_s I (s_iconst (pc' := 100) D_Ranking_insert_3.2.2.2.2 rfl) ?_
        refine z_s I (s_isub (pc' := 101) D_Ranking_insert_4.1.1.1.1 rfl) ?_
        refine z_lald (pc' := 102) (nI := 28) I k69 (inR_w32 _) rfl D_Ranking_insert_4.1.1.1.2 rfl (fun c70 f71 => ?_)
        refine z_last (pc' := 103) (nI := 28) I k68 ax3 f71 rfl D_Ranking_insert_4.1.1.2.1 rfl (fun c72 => ?_)
        refine z_bH (fun h73 e74 => ?_)
        refine z_s I (s_iinc (pc' := 106) (lv' := [(3, vI (w32 (x3 + (-1)))), (0, vR ad o), (1, vI x1), (2, vI x2)]) (n := 3) rfl D_Ranking_insert_4.1.1.2.2 (by decide) rfl rfl) ?_
        refine z_s I (s_goto (tgt := 5) D_Ranking_insert_4.1.2.1.1 rfl) ?_
        refine z_s I (s_lv (lv' := [(0, vR ad o), (1, vI x1), (2, vI x2), (3, vI (w32 (x3 + (-1))))]) [1, 2, 3, 0] rfl) ?_
        exact z_end (fun g => hin1_1 _ g (inR_w32 _))
  have main : Z Y (m_Ranking_insert o x1 x2 h) G0 h 0 [(0, vR ad o), (1, vI x1), (2, vI x2)] [] := by
    unfold m_Ranking_insert
    refine z_s I (s_aload_n (pc' := 1) 0 rfl D_Ranking_insert_0.1.1.1.1 rfl rfl) ?_
    refine z_getI (pc' := 4) (jI := 0) I g_Ranking_9 ao rfl rfl D_Ranking_insert_0.1.1.1.2 rfl (fun f75 => ?_)
    refine z_bI f75 (fun v76 e77 f78 => ?_)
    refine z_s I (s_istore_n (pc' := 5) (lv' := [(3, vI v76), (0, vR ad o), (1, vI x1), (2, vI x2)]) D_Ranking_insert_0.1.1.2.1 rfl (by decide) rfl rfl) ?_
    refine z_s I (s_lv (lv' := [(0, vR ad o), (1, vI x1), (2, vI x2), (3, vI v76)]) [1, 2, 3, 0] rfl) ?_
    exact L5 _ f78
  exact main _ hF (by rw [hG0])
set_option maxHeartbeats 4000000 in
set_option maxRecDepth 20000 in
theorem c_Ranking_holds {l : Launch} {τ : TP} {o : Int} {x1 : Int} {x2 : Int} {x3 : Int} {h : HP} {r : Int} (hw : wf τ) (ao : ok τ (4, 4) o) (ax1 : inR x1) (ax2 : inR x2) (ax3 : inR x3) (hh : hr τ h) (hF : m_Ranking_holds o x1 x2 x3 h = some r) : Ctr l y_Ranking_holds k_Ranking_holds 6 (Option.some FieldType.boolean) 1 37 τ (fun ad => [vR ad o, vI x1, vI x2, vI x3]) h (some (vI r)) h (b01 r) := by
  refine ctr_of (by decide) hw hh (fun ad => Nat.le_of_ble_eq_true rfl) (fun ad K Y I hK => ?_)
  obtain ⟨G0, hG0⟩ : ∃ G : Int → Prop, G = fun x => x = r := ⟨_, rfl⟩
  have gk0 : ∀ (x : Int), G0 x → b01 x → K (some (vI x)) h := fun x g q => by
    rw [hG0] at g
    cases g
    exact hK q
  have J66 : ∀ (x4 : Int) (ax4 : inR x4) (x5 : Int) (ax5 : inR x5), Z Y (m_Ranking_holds_J66 o x1 x3 x4 x5 h) G0 h 66 [(0, vR ad o), (1, vI x1), (3, vI x3), (4, vI x4), (5, vI x5)] [] := by
    intro x4 ax4 x5 ax5
    unfold m_Ranking_holds_J66
    refine z_s I (s_aload_n (pc' := 67) 0 rfl D_Ranking_holds_1.2.1.1.1 rfl rfl) ?_
    refine z_getR (pc' := 70) (eI := o + 3) I g_Ranking_25 ao rfl (by omega) D_Ranking_holds_1.2.1.1.2 rfl ?_
    have k1 : ok τ (1, 28) (o + 3) := r_Ranking_above hw ao (by omega)
    refine z_s I (s_iload_n (pc' := 71) 1 rfl D_Ranking_holds_1.2.1.2.1 rfl rfl) ?_
    refine z_lald (pc' := 72) (nI := 28) I k1 ax1 rfl D_Ranking_holds_1.2.1.2.2 rfl (fun c2 f3 => ?_)
    refine z_s I (s_aload_n (pc' := 73) 0 rfl D_Ranking_holds_1.2.2.1.1 rfl rfl) ?_
    refine z_getR (pc' := 76) (eI := o + 4) I g_Ranking_29 ao rfl (by omega) D_Ranking_holds_1.2.2.1.2 rfl ?_
    have k4 : ok τ (1, 28) (o + 4) := r_Ranking_below hw ao (by omega)
    refine z_s I (s_iload_n (pc' := 77) 1 rfl D_Ranking_holds_1.2.2.2.1 rfl rfl) ?_
    refine z_lald (pc' := 78) (nI := 28) I k4 ax1 rfl D_Ranking_holds_1.2.2.2.2 rfl (fun c5 f6 => ?_)
    refine z_s I (s_iload_n (pc' := 79) 2 rfl D_Ranking_holds_2.1.1.1 rfl rfl) ?_
    refine z_s I (s_i2l (pc' := 80) ax3 D_Ranking_holds_2.1.1.2.1 rfl) ?_
    refine z_s I (s_iload (pc' := 82) 4 rfl D_Ranking_holds_2.1.1.2.2 rfl) ?_
    refine z_s I (s_i2l (pc' := 83) ax5 D_Ranking_holds_2.1.2.1.1 rfl) ?_
    refine z_s I (s_lmul (pc' := 84) D_Ranking_holds_2.1.2.1.2 rfl) ?_
    refine z_ldc2 (pc' := 87) (x := 1000) I cl_Ranking_119 (by decide +kernel) D_Ranking_holds_2.1.2.2.1 rfl ?_
    refine z_s I (s_iload (pc' := 89) 3 rfl D_Ranking_holds_2.1.2.2.2 rfl) ?_
    refine z_s I (s_i2l (pc' := 90) ax4 D_Ranking_holds_2.2.1.1.1 rfl) ?_
    refine z_s I (s_lmul (pc' := 91) D_Ranking_holds_2.2.1.1.2 rfl) ?_
    refine z_b1 (fun r9 q8 => ?_)
    refine z_callS (pc' := 94) I mv_Ratio_compare ml_Ranking_111 (fun ad => [vL (h (o + 3) x1), vL (h (o + 4) x1), vL (w64 (x3 * x5)), vL (w64 (1000 * x4))]) ⟨Nat.le_of_ble_eq_true rfl, Nat.le_of_ble_eq_true rfl⟩ (fun hh => c_Ratio_compare hw f3 f6 (inL_w64 _) (inL_w64 _) hh q8) rfl rfl (Nat.le_of_ble_eq_true rfl) D_Ranking_holds_2.2.1.2.1 rfl (fun f7 => ?_)
    refine z_if_gt (tgt := 101) (pc' := 97) I f7 D_Ranking_holds_2.2.1.2.2 rfl rfl (fun c10 => ?_) (fun c10 => ?_)
    · refine z_s I (s_iconst (pc' := 102) D_Ranking_holds_2.2.2.2.1 rfl) ?_
      exact z_ret (w := some (vI 0)) I (fun g => gk0 _ g bz0) ⟨_, bz0, rfl⟩ D_Ranking_holds_2.2.2.2.2 rfl
    · refine z_s I (s_iconst (pc' := 98) D_Ranking_holds_2.2.2.1.1 rfl) ?_
      refine z_s I (s_goto (tgt := 102) D_Ranking_holds_2.2.2.1.2 rfl) ?_
      exact z_ret (w := some (vI 1)) I (fun g => gk0 _ g bz1) ⟨_, bz1, rfl⟩ D_Ranking_holds_2.2.2.2.2 rfl
  have main : Z Y (m_Ranking_holds o x1 x2 x3 h) G0 h 0 [(0, vR ad o), (1, vI x1), (2, vI x2), (3, vI x3)] [] := by
    unfold m_Ranking_holds
    refine z_s I (s_iconst (pc' := 1) D_Ranking_holds_0.1.1.1.1 rfl) ?_
    refine z_s I (s_istore (pc' := 3) (lv' := [(4, vI 1), (0, vR ad o), (1, vI x1), (2, vI x2), (3, vI x3)]) D_Ranking_holds_0.1.1.1.2 (by decide) rfl rfl) ?_
    refine z_s I (s_iconst (pc' := 4) D_Ranking_holds_0.1.1.2.1 rfl) ?_
    refine z_s I (s_istore (pc' := 6) (lv' := [(5, vI 1), (4, vI 1), (0, vR ad o), (1, vI x1), (2, vI x2), (3, vI x3)]) D_Ranking_holds_0.1.1.2.2 (by decide) rfl rfl) ?_
    refine z_s I (s_iload_n (pc' := 7) 4 rfl D_Ranking_holds_0.1.2.1.1 rfl rfl) ?_
    refine z_tin (tgt := 32) I ax2 D_Ranking_holds_0.1.2.1.2 0 ⟨by decide, by decide⟩ rfl rfl (fun c11 => ?_) (fun c11 => ?_)
    · refine z_s I (s_goto (tgt := 66) D_Ranking_holds_0.1.2.2.1 rfl) ?_
      refine z_s I (s_lv (lv' := [(0, vR ad o), (1, vI x1), (3, vI x3), (4, vI 1), (5, vI 1)]) [2, 3, 5, 1, 0] rfl) ?_
      exact J66 _ (b01.R bz1) _ (b01.R bz1)
    · skip
      refine z_tin (tgt := 35) I ax2 D_Ranking_holds_0.1.2.1.2 1 ⟨by decide, by decide⟩ rfl rfl (fun c12 => ?_) (fun c12 => ?_)
      · refine z_s I (s_aload_n (pc' := 36) 2 rfl D_Ranking_holds_0.1.2.2.2 rfl rfl) ?_
        refine z_getI (pc' := 39) (jI := 0) I g_Ranking_9 ao rfl rfl D_Ranking_holds_0.2.1.1.1 rfl (fun f13 => ?_)
        refine z_bI f13 (fun v14 e15 f16 => ?_)
        refine z_s I (s_istore (pc' := 41) (lv' := [(4, vI v14), (5, vI 1), (0, vR ad o), (1, vI x1), (2, vI x2), (3, vI x3)]) D_Ranking_holds_0.2.1.1.2 (by decide) rfl rfl) ?_
        refine z_s I (s_goto (tgt := 66) D_Ranking_holds_0.2.1.2.1 rfl) ?_
        refine z_s I (s_lv (lv' := [(0, vR ad o), (1, vI x1), (3, vI x3), (4, vI v14), (5, vI 1)]) [2, 3, 5, 0, 1] rfl) ?_
        exact J66 _ f16 _ (b01.R bz1)
      · skip
        refine z_tin (tgt := 44) I ax2 D_Ranking_holds_0.1.2.1.2 2 ⟨by decide, by decide⟩ rfl rfl (fun c17 => ?_) (fun c17 => ?_)
        · refine z_s I (s_aload_n (pc' := 45) 2 rfl D_Ranking_holds_0.2.1.2.2 rfl rfl) ?_
          refine z_getI (pc' := 48) (jI := 0) I g_Ranking_9 ao rfl rfl D_Ranking_holds_0.2.2.1.1 rfl (fun f18 => ?_)
          refine z_s I (s_iload_n (pc' := 49) 3 rfl D_Ranking_holds_0.2.2.1.2 rfl rfl) ?_
          refine z_s I (s_isub (pc' := 50) D_Ranking_holds_0.2.2.2.1 rfl) ?_
          refine z_bI (inR_w32 _) (fun v19 e20 f21 => ?_)
          refine z_s I (s_istore (pc' := 52) (lv' := [(4, vI v19), (5, vI 1), (0, vR ad o), (1, vI x1), (2, vI x2), (3, vI x3)]) D_Ranking_holds_0.2.2.2.2 (by decide) rfl rfl) ?_
          refine z_s I (s_goto (tgt := 66) D_Ranking_holds_1.1.1.1.1 rfl) ?_
          refine z_s I (s_lv (lv' := [(0, vR ad o), (1, vI x1), (3, vI x3), (4, vI v19), (5, vI 1)]) [2, 3, 5, 0, 1] rfl) ?_
          exact J66 _ f21 _ (b01.R bz1)
        · skip
          refine z_tout (tgt := 55) I ax2 D_Ranking_holds_0.1.2.1.2 (by omega) rfl ?_
          refine z_s I (s_aload_n (pc' := 56) 2 rfl D_Ranking_holds_1.1.1.1.2 rfl rfl) ?_
          refine z_getI (pc' := 59) (jI := 0) I g_Ranking_9 ao rfl rfl D_Ranking_holds_1.1.1.2.1 rfl (fun f22 => ?_)
          refine z_bI f22 (fun v23 e24 f25 => ?_)
          refine z_s I (s_istore (pc' := 61) (lv' := [(4, vI v23), (5, vI 1), (0, vR ad o), (1, vI x1), (2, vI x2), (3, vI x3)]) D_Ranking_holds_1.1.1.2.2 (by decide) rfl rfl) ?_
          refine z_s I (s_iload_n (pc' := 62) 3 rfl D_Ranking_holds_1.1.2.1.1 rfl rfl) ?_
          refine z_s I (s_iconst (pc' := 63) D_Ranking_holds_1.1.2.1.2 rfl) ?_
          refine z_s I (s_iadd (pc' := 64) D_Ranking_holds_1.1.2.2.1 rfl) ?_
          refine z_bI (inR_w32 _) (fun v26 e27 f28 => ?_)
          refine z_s I (s_istore (pc' := 66) (lv' := [(5, vI v26), (4, vI v23), (0, vR ad o), (1, vI x1), (2, vI x2), (3, vI x3)]) D_Ranking_holds_1.1.2.2.2 (by decide) rfl rfl) ?_
          refine z_s I (s_lv (lv' := [(0, vR ad o), (1, vI x1), (3, vI x3), (4, vI v23), (5, vI v26)]) [2, 3, 5, 1, 0] rfl) ?_
          exact J66 _ f25 _ f28
  exact main _ hF (by rw [hG0])
set_option maxHeartbeats 4000000 in
set_option maxRecDepth 20000 in
theorem c_Ranking_countSuspects {l : Launch} {τ : TP} {o : Int} {x1 : Int} {x2 : Int} {h : HP} {r : Int} (hw : wf τ) (ao : ok τ (4, 4) o) (ax1 : inR x1) (ax2 : inR x2) (hh : hr τ h) (hF : m_Ranking_countSuspects o x1 x2 h = some r) : Ctr l y_Ranking_countSuspects k_Ranking_countSuspects 4 (Option.some FieldType.int) 2 62 τ (fun ad => [vR ad o, vI x1, vI x2]) h (some (vI r)) h (inR r) := by
  refine ctr_of (by decide) hw hh (fun ad => Nat.le_of_ble_eq_true rfl) (fun ad K Y I hK => ?_)
  obtain ⟨G0, hG0⟩ : ∃ G : Int → Prop, G = fun x => x = r := ⟨_, rfl⟩
  have gk0 : ∀ (x : Int), G0 x → inR x → K (some (vI x)) h := fun x g q => by
    rw [hG0] at g
    cases g
    exact hK q
  have L36 : ∀ (s : Int), (inR s) → Z Y (m_Ranking_countSuspects_L36 o x1 x2 h s) G0 h 36 [(0, vR ad o), (1, vI x1), (2, vI x2), (3, vI s)] [] := by
    intro s hs
    refine z_loop (G := G0) (hO := fun s : Int => h) (lO := fun s : Int => [(0, vR ad o), (1, vI x1), (2, vI x2), (3, vI s)]) (Φ := fun s : Int => inR s) (fun G1 hin1_1 hout1 s hs => ?_) FUEL s hs
    obtain ⟨x3, rfl⟩ : ∃ z, z = s := ⟨_, rfl⟩
    have ax3 := hs
    have gk1 := fun (x : Int) (g : G1 (.inr (x))) (q : inR x) => gk0 x (hout1 _ g) q
    show Z Y (m_Ranking_countSuspects_L36b o x1 x2 h x3) G1 h 36 [(0, vR ad o), (1, vI x1), (2, vI x2), (3, vI x3)] []
    unfold m_Ranking_countSuspects_L36b
    refine z_s I (s_iload_n (pc' := 37) 3 rfl D_Ranking_countSuspects_1.1.2.2.1 rfl rfl) ?_
    refine z_s I (s_aload_n (pc' := 38) 0 rfl D_Ranking_countSuspects_1.1.2.2.2 rfl rfl) ?_
    refine z_getI (pc' := 41) (jI := 0) I g_Ranking_9 ao rfl rfl D_Ranking_countSuspects_1.2.1.1.1 rfl (fun f1 => ?_)
    refine z_icmp_ge (tgt := 60) (pc' := 44) I ax3 f1 D_Ranking_countSuspects_1.2.1.1.2 rfl rfl (fun c2 => ?_) (fun c2 => ?_)
    · refine z_s I (s_iload_n (pc' := 61) 3 rfl D_Ranking_countSuspects_2.2.1 rfl rfl) ?_
      exact z_ret (w := some (vI x3)) I (fun g => gk1 _ g ax3) ⟨_, rfl⟩ D_Ranking_countSuspects_2.2.2 rfl
    · refine z_s I (s_aload_n (pc' := 45) 0 rfl D_Ranking_countSuspects_1.2.1.2.1 rfl rfl) ?_
      refine z_s I (s_iload_n (pc' := 46) 3 rfl D_Ranking_countSuspects_1.2.1.2.2 rfl rfl) ?_
      refine z_s I (s_iload_n (pc' := 47) 1 rfl D_Ranking_countSuspects_1.2.2.1.1 rfl rfl) ?_
      refine z_s I (s_iload_n (pc' := 48) 2 rfl D_Ranking_countSuspects_1.2.2.1.2 rfl rfl) ?_
      refine z_b1 (fun r5 q4 => ?_)
      refine z_callV (pc' := 51) I mv_Ranking_holds ml_Ranking_115 (fun ad => [vI x3, vI x1, vI x2]) ⟨Nat.le_of_ble_eq_true rfl, Nat.le_of_ble_eq_true rfl⟩ ao (fun hh => c_Ranking_holds hw ao ax3 ax1 ax2 hh q4) rfl rfl (Nat.le_of_ble_eq_true rfl) D_Ranking_countSuspects_1.2.2.2.1 rfl (fun f3 => ?_)
      refine z_if_eq (tgt := 60) (pc' := 54) I (b01.R f3) D_Ranking_countSuspects_1.2.2.2.2 rfl rfl (fun c6 => ?_) (fun c6 => ?_)
      · refine z_s I (s_iload_n (pc' := 61) 3 rfl D_Ranking_countSuspects_2.2.1 rfl rfl) ?_
        exact z_ret (w := some (vI x3)) I (fun g => gk1 _ g ax3) ⟨_, rfl⟩ D_Ranking_countSuspects_2.2.2 rfl
      · refine z_s I (s_iinc (pc' := 57) (lv' := [(3, vI (w32 (x3 + 1))), (0, vR ad o), (1, vI x1), (2, vI x2)]) (n := 3) rfl D_Ranking_countSuspects_2.1.1 (by decide) rfl rfl) ?_
        refine z_s I (s_goto (tgt := 36) D_Ranking_countSuspects_2.1.2 rfl) ?_
        refine z_s I (s_lv (lv' := [(0, vR ad o), (1, vI x1), (2, vI x2), (3, vI (w32 (x3 + 1)))]) [1, 2, 3, 0] rfl) ?_
        exact z_end (fun g => hin1_1 _ g (inR_w32 _))
  have L10 : ∀ (s : Int), (inR s) → Z Y (m_Ranking_countSuspects_L10 o x1 x2 h s) G0 h 10 [(0, vR ad o), (1, vI x1), (2, vI x2), (3, vI s)] [] := by
    intro s hs
    refine z_loop (G := G0) (hO := fun s : Int => h) (lO := fun s : Int => [(0, vR ad o), (1, vI x1), (2, vI x2), (3, vI s)]) (Φ := fun s : Int => inR s) (fun G1 hin1_1 hout1 s hs => ?_) FUEL s hs
    obtain ⟨x3, rfl⟩ : ∃ z, z = s := ⟨_, rfl⟩
    have ax3 := hs
    have gk1 := fun (x : Int) (g : G1 (.inr (x))) (q : inR x) => gk0 x (hout1 _ g) q
    show Z Y (m_Ranking_countSuspects_L10b o x1 x2 h x3) G1 h 10 [(0, vR ad o), (1, vI x1), (2, vI x2), (3, vI x3)] []
    unfold m_Ranking_countSuspects_L10b
    refine z_s I (s_iload_n (pc' := 11) 3 rfl D_Ranking_countSuspects_0.1.2.2.1 rfl rfl) ?_
    refine z_if_le (tgt := 32) (pc' := 14) I ax3 D_Ranking_countSuspects_0.1.2.2.2 rfl rfl (fun c7 => ?_) (fun c7 => ?_)
    · refine z_s I (s_iload_n (pc' := 33) 3 rfl D_Ranking_countSuspects_1.1.1.2.1 rfl rfl) ?_
      exact z_ret (w := some (vI x3)) I (fun g => gk1 _ g ax3) ⟨_, rfl⟩ D_Ranking_countSuspects_1.1.1.2.2 rfl
    · refine z_s I (s_aload_n (pc' := 15) 0 rfl D_Ranking_countSuspects_0.2.1.1.1 rfl rfl) ?_
      refine z_s I (s_iload_n (pc' := 16) 3 rfl D_Ranking_countSuspects_0.2.1.1.2 rfl rfl) ?_
      refine z_s I (s_iconst (pc' := 17) D_Ranking_countSuspects_0.2.1.2.1 rfl) ?_
      refine z_s I (s_isub (pc' := 18) D_Ranking_countSuspects_0.2.1.2.2 rfl) ?_
      refine z_s I (s_iload_n (pc' := 19) 1 rfl D_Ranking_countSuspects_0.2.2.1.1 rfl rfl) ?_
      refine z_s I (s_iload_n (pc' := 20) 2 rfl D_Ranking_countSuspects_0.2.2.1.2 rfl rfl) ?_
      refine z_b1 (fun r10 q9 => ?_)
      refine z_callV (pc' := 23) I mv_Ranking_holds ml_Ranking_115 (fun ad => [vI (w32 (x3 - 1)), vI x1, vI x2]) ⟨Nat.le_of_ble_eq_true rfl, Nat.le_of_ble_eq_true rfl⟩ ao (fun hh => c_Ranking_holds hw ao (inR_w32 _) ax1 ax2 hh q9) rfl rfl (Nat.le_of_ble_eq_true rfl) D_Ranking_countSuspects_0.2.2.2.1 rfl (fun f8 => ?_)
      refine z_if_ne (tgt := 32) (pc' := 26) I (b01.R f8) D_Ranking_countSuspects_0.2.2.2.2 rfl rfl (fun c11 => ?_) (fun c11 => ?_)
      · refine z_s I (s_iload_n (pc' := 33) 3 rfl D_Ranking_countSuspects_1.1.1.2.1 rfl rfl) ?_
        exact z_ret (w := some (vI x3)) I (fun g => gk1 _ g ax3) ⟨_, rfl⟩ D_Ranking_countSuspects_1.1.1.2.2 rfl
      · refine z_s I (s_iinc (pc' := 29) (lv' := [(3, vI (w32 (x3 + (-1)))), (0, vR ad o), (1, vI x1), (2, vI x2)]) (n := 3) rfl D_Ranking_countSuspects_1.1.1.1.1 (by decide) rfl rfl) ?_
        refine z_s I (s_goto (tgt := 10) D_Ranking_countSuspects_1.1.1.1.2 rfl) ?_
        refine z_s I (s_lv (lv' := [(0, vR ad o), (1, vI x1), (2, vI x2), (3, vI (w32 (x3 + (-1))))]) [1, 2, 3, 0] rfl) ?_
        exact z_end (fun g => hin1_1 _ g (inR_w32 _))
  have main : Z Y (m_Ranking_countSuspects o x1 x2 h) G0 h 0 [(0, vR ad o), (1, vI x1), (2, vI x2)] [] := by
    unfold m_Ranking_countSuspects
    refine z_s I (s_iload_n (pc' := 1) 1 rfl D_Ranking_countSuspects_0.1.1.1.1 rfl rfl) ?_
    refine z_s I (s_iconst (pc' := 2) D_Ranking_countSuspects_0.1.1.1.2 rfl) ?_
    refine z_icmp_ne (tgt := 34) (pc' := 5) I ax1 (inR_c (x := 3) rfl) D_Ranking_countSuspects_0.1.1.2.1 rfl rfl (fun c12 => ?_) (fun c12 => ?_)
    · refine z_s I (s_iconst (pc' := 35) D_Ranking_countSuspects_1.1.2.1.1 rfl) ?_
      refine z_s I (s_istore_n (pc' := 36) (lv' := [(3, vI 0), (0, vR ad o), (1, vI x1), (2, vI x2)]) D_Ranking_countSuspects_1.1.2.1.2 rfl (by decide) rfl rfl) ?_
      refine z_s I (s_lv (lv' := [(0, vR ad o), (1, vI x1), (2, vI x2), (3, vI 0)]) [1, 2, 3, 0] rfl) ?_
      exact L36 _ (b01.R bz0)
    · refine z_s I (s_aload_n (pc' := 6) 0 rfl D_Ranking_countSuspects_0.1.1.2.2 rfl rfl) ?_
      refine z_getI (pc' := 9) (jI := 0) I g_Ranking_9 ao rfl rfl D_Ranking_countSuspects_0.1.2.1.1 rfl (fun f13 => ?_)
      refine z_bI f13 (fun v14 e15 f16 => ?_)
      refine z_s I (s_istore_n (pc' := 10) (lv' := [(3, vI v14), (0, vR ad o), (1, vI x1), (2, vI x2)]) D_Ranking_countSuspects_0.1.2.1.2 rfl (by decide) rfl rfl) ?_
      refine z_s I (s_lv (lv' := [(0, vR ad o), (1, vI x1), (2, vI x2), (3, vI v14)]) [1, 2, 3, 0] rfl) ?_
      exact L10 _ f16
  exact main _ hF (by rw [hG0])
set_option maxHeartbeats 4000000 in
set_option maxRecDepth 20000 in
theorem c_Ranking_order {l : Launch} {τ : TP} {o : Int} {r1 : Int} {r2 : Int} {x3 : Int} {h : HP} {h' : HP} (hw : wf τ) (ao : ok τ (4, 4) o) (ar1 : ok τ (4, 1) r1) (ar2 : ok τ (4, 3) r2) (ax3 : inR x3) (hh : hr τ h) (hF : m_Ranking_order o r1 r2 x3 h = some h') : Ctr l y_Ranking_order k_Ranking_order 6 (Option.none : Option FieldType) 4 113 τ (fun ad => [vR ad o, vR ad r1, vR ad r2, vI x3]) h none h' (True) := by
  refine ctr_of (by decide) hw hh (fun ad => Nat.le_of_ble_eq_true rfl) (fun ad K Y I hK => ?_)
  obtain ⟨G0, hG0⟩ : ∃ G : HP → Prop, G = fun x => x = h' := ⟨_, rfl⟩
  have gk0 : ∀ (x : HP), G0 x → K none x := fun x g => by
    rw [hG0] at g
    cases g
    exact hK trivial
  have J83 : ∀ (h : HP), Z Y (m_Ranking_order_J83 o r1 h) G0 h 83 [(0, vR ad o), (1, vR ad r1)] [] := by
    intro h
    unfold m_Ranking_order_J83
    refine z_s I (s_aload_n (pc' := 84) 0 rfl D_Ranking_order_2.2.1.1.2 rfl rfl) ?_
    refine z_s I (s_aload_n (pc' := 85) 0 rfl D_Ranking_order_2.2.1.2.1 rfl rfl) ?_
    refine z_s I (s_aload_n (pc' := 86) 1 rfl D_Ranking_order_2.2.1.2.2 rfl rfl) ?_
    refine z_getR (pc' := 89) (eI := r1 + 23) I g_Ranking_59 ar1 rfl (by omega) D_Ranking_order_2.2.2.1.1 rfl ?_
    have k1 : ok τ (0, 6) (r1 + 23) := r_Exam_used hw ar1 (by omega)
    refine z_s I (s_iconst (pc' := 90) D_Ranking_order_2.2.2.1.2 rfl) ?_
    refine z_g (c := 0 ≤ (1 : Int) ∧ (1 : Int) < 6) (by decide) ?_
    refine z_iald (pc' := 91) (nI := 6) I k1 (b01.R bz1) rfl D_Ranking_order_2.2.2.2.1 rfl (fun c2 f3 => ?_)
    refine z_s I (s_aload_n (pc' := 92) 1 rfl D_Ranking_order_2.2.2.2.2 rfl rfl) ?_
    refine z_getR (pc' := 95) (eI := r1 + 23) I g_Ranking_59 ar1 rfl (by omega) D_Ranking_order_3.1.1 rfl ?_
    have k4 : ok τ (0, 6) (r1 + 23) := r_Exam_used hw ar1 (by omega)
    refine z_s I (s_iconst (pc' := 96) D_Ranking_order_3.1.2.1 rfl) ?_
    refine z_g (c := 0 ≤ (2 : Int) ∧ (2 : Int) < 6) (by decide) ?_
    refine z_iald (pc' := 97) (nI := 6) I k4 (inR_c (x := 2) rfl) rfl D_Ranking_order_3.1.2.2 rfl (fun c5 f6 => ?_)
    refine z_b1 (fun r9 q8 => ?_)
    refine z_callV (pc' := 100) I mv_Ranking_countSuspects ml_Ranking_62 (fun ad => [vI (h (r1 + 23) 1), vI (h (r1 + 23) 2)]) ⟨Nat.le_of_ble_eq_true rfl, Nat.le_of_ble_eq_true rfl⟩ ao (fun hh => c_Ranking_countSuspects hw ao f3 f6 hh q8) rfl rfl (Nat.le_of_ble_eq_true rfl) D_Ranking_order_3.2.1 rfl (fun f7 => ?_)
    refine z_putI (pc' := 103) (jI := 1) I p_Ranking_15 ao rfl rfl f7 D_Ranking_order_3.2.2.1 rfl ?_
    refine z_bH (fun h10 e11 => ?_)
    exact z_ret (w := none) I (fun g => gk0 _ g) rfl D_Ranking_order_3.2.2.2 rfl
  have L8 : ∀ (s : Int × HP), (inR (s.1)) → Z Y (m_Ranking_order_L8 o r1 r2 x3 s) G0 (s.2) 8 [(0, vR ad o), (1, vR ad r1), (2, vR ad r2), (3, vI x3), (4, vI (s.1))] [] := by
    intro s hs
    refine z_loop (G := G0) (hO := fun s : Int × HP => s.2) (lO := fun s : Int × HP => [(0, vR ad o), (1, vR ad r1), (2, vR ad r2), (3, vI x3), (4, vI (s.1))]) (Φ := fun s : Int × HP => inR (s.1)) (fun G1 hin1_1 hout1 s hs => ?_) FUEL s hs
    obtain ⟨x4, h⟩ := s
    have ax4 := hs
    have gk1 := fun (x : HP) (g : G1 (.inr (x))) => gk0 x (hout1 _ g)
    have L23 : ∀ (x4 : Int) (ax4 : inR x4) (s : Int × HP), (inR (s.1)) → Z Y (m_Ranking_order_L23 o r1 r2 x3 x4 s) G1 (s.2) 23 [(0, vR ad o), (1, vR ad r1), (2, vR ad r2), (3, vI x3), (4, vI x4), (5, vI (s.1))] [] := by
      intro x4 ax4 s hs
      refine z_loop (G := G1) (hO := fun s : Int × HP => s.2) (lO := fun s : Int × HP => [(0, vR ad o), (1, vR ad r1), (2, vR ad r2), (3, vI x3), (4, vI x4), (5, vI (s.1))]) (Φ := fun s : Int × HP => inR (s.1)) (fun G2 hin2_2 hout2 s hs => ?_) FUEL s hs
      obtain ⟨x5, h⟩ := s
      have ax5 := hs
      have hin1_2 := fun (s' : Int × HP) (g : G2 (.inr (.inl s'))) => hin1_1 s' (hout2 _ g)
      have gk2 := fun (x : HP) (g : G2 (.inr (.inr (x)))) => gk1 x (hout2 _ g)
      show Z Y (m_Ranking_order_L23b o r1 r2 x3 x4 x5 h) G2 h 23 [(0, vR ad o), (1, vR ad r1), (2, vR ad r2), (3, vI x3), (4, vI x4), (5, vI x5)] []
      unfold m_Ranking_order_L23b
      refine z_s I (s_iload (pc' := 25) 5 rfl D_Ranking_order_0.2.2.1.2 rfl) ?_
      refine z_s I (s_aload_n (pc' := 26) 1 rfl D_Ranking_order_0.2.2.2.1 rfl rfl) ?_
      refine z_getI (pc' := 29) (jI := 1) I g_Ranking_42 ar1 rfl rfl D_Ranking_order_0.2.2.2.2 rfl (fun f12 => ?_)
      refine z_icmp_ge (tgt := 77) (pc' := 32) I ax5 f12 D_Ranking_order_1.1.1.1.1 rfl rfl (fun c13 => ?_) (fun c13 => ?_)
      · refine z_s I (s_iinc (pc' := 80) (lv' := [(4, vI (w32 (x4 + 1))), (0, vR ad o), (1, vR ad r1), (2, vR ad r2), (3, vI x3), (5, vI x5)]) (n := 4) rfl D_Ranking_order_2.1.2.2.2 (by decide) rfl rfl) ?_
        refine z_s I (s_goto (tgt := 8) D_Ranking_order_2.2.1.1.1 rfl) ?_
        refine z_s I (s_lv (lv' := [(0, vR ad o), (1, vR ad r1), (2, vR ad r2), (3, vI x3), (4, vI (w32 (x4 + 1)))]) [1, 2, 3, 4, 0] rfl) ?_
        exact z_end (fun g => hin1_2 _ g (inR_w32 _))
      · refine z_s I (s_aload_n (pc' := 33) 1 rfl D_Ranking_order_1.1.1.1.2 rfl rfl) ?_
        refine z_s I (s_iload (pc' := 35) 4 rfl D_Ranking_order_1.1.1.2.1 rfl) ?_
        refine z_s I (s_iload (pc' := 37) 5 rfl D_Ranking_order_1.1.1.2.2 rfl) ?_
        refine z_b1 (fun r16 q15 => ?_)
        refine z_callV (pc' := 40) I mv_Exam_inReach ml_Ranking_47 (fun ad => [vI x4, vI x5]) ⟨Nat.le_of_ble_eq_true rfl, Nat.le_of_ble_eq_true rfl⟩ ar1 (fun hh => c_Exam_inReach hw ar1 ax4 ax5 hh q15) rfl rfl (Nat.le_of_ble_eq_true rfl) D_Ranking_order_1.1.2.1.1 rfl (fun f14 => ?_)
        refine z_if_eq (tgt := 71) (pc' := 43) I (b01.R f14) D_Ranking_order_1.1.2.1.2 rfl rfl (fun c17 => ?_) (fun c17 => ?_)
        · refine z_s I (s_iinc (pc' := 74) (lv' := [(5, vI (w32 (x5 + 1))), (0, vR ad o), (1, vR ad r1), (2, vR ad r2), (3, vI x3), (4, vI x4)]) (n := 5) rfl D_Ranking_order_2.1.2.1.2 (by decide) rfl rfl) ?_
          refine z_s I (s_goto (tgt := 23) D_Ranking_order_2.1.2.2.1 rfl) ?_
          refine z_s I (s_lv (lv' := [(0, vR ad o), (1, vR ad r1), (2, vR ad r2), (3, vI x3), (4, vI x4), (5, vI (w32 (x5 + 1)))]) [1, 2, 3, 4, 5, 0] rfl) ?_
          exact z_end (fun g => hin2_2 _ g (inR_w32 _))
        · refine z_s I (s_aload_n (pc' := 44) 0 rfl D_Ranking_order_1.1.2.2.1 rfl rfl) ?_
          refine z_getI (pc' := 47) (jI := 0) I g_Ranking_9 ao rfl rfl D_Ranking_order_1.1.2.2.2 rfl (fun f18 => ?_)
          refine z_s I (s_bipush (pc' := 49) D_Ranking_order_1.2.1.1.1 rfl rfl) ?_
          refine z_icmp_ge (tgt := 71) (pc' := 52) I f18 (inR_c (x := 28) rfl) D_Ranking_order_1.2.1.1.2 rfl rfl (fun c19 => ?_) (fun c19 => ?_)
          · refine z_s I (s_iinc (pc' := 74) (lv' := [(5, vI (w32 (x5 + 1))), (0, vR ad o), (1, vR ad r1), (2, vR ad r2), (3, vI x3), (4, vI x4)]) (n := 5) rfl D_Ranking_order_2.1.2.1.2 (by decide) rfl rfl) ?_
            refine z_s I (s_goto (tgt := 23) D_Ranking_order_2.1.2.2.1 rfl) ?_
            refine z_s I (s_lv (lv' := [(0, vR ad o), (1, vR ad r1), (2, vR ad r2), (3, vI x3), (4, vI x4), (5, vI (w32 (x5 + 1)))]) [1, 2, 3, 4, 5, 0] rfl) ?_
            exact z_end (fun g => hin2_2 _ g (inR_w32 _))
          · refine z_s I (s_aload_n (pc' := 53) 0 rfl D_Ranking_order_1.2.1.2.1 rfl rfl) ?_
            refine z_s I (s_aload_n (pc' := 54) 1 rfl D_Ranking_order_1.2.1.2.2 rfl rfl) ?_
            refine z_s I (s_aload_n (pc' := 55) 2 rfl D_Ranking_order_1.2.2.1.1 rfl rfl) ?_
            refine z_s I (s_iload (pc' := 57) 4 rfl D_Ranking_order_1.2.2.1.2 rfl) ?_
            refine z_s I (s_iload (pc' := 59) 5 rfl D_Ranking_order_1.2.2.2.1 rfl) ?_
            refine z_s I (s_iload_n (pc' := 60) 3 rfl D_Ranking_order_1.2.2.2.2 rfl rfl) ?_
            refine z_b1 (fun h22 q21 => ?_)
            refine z_callV (pc' := 63) I mv_Ranking_weighPair ml_Ranking_51 (fun ad => [vR ad r1, vR ad r2, vI x4, vI x5, vI x3]) ⟨Nat.le_of_ble_eq_true rfl, Nat.le_of_ble_eq_true rfl⟩ ao (fun hh => c_Ranking_weighPair hw ao ar1 ar2 ax4 ax5 ax3 hh q21) rfl rfl (Nat.le_of_ble_eq_true rfl) D_Ranking_order_2.1.1.1.1 rfl (fun f20 => ?_)
            refine z_s I (s_aload_n (pc' := 64) 0 rfl D_Ranking_order_2.1.1.1.2 rfl rfl) ?_
            refine z_s I (s_iload (pc' := 66) 4 rfl D_Ranking_order_2.1.1.2.1 rfl) ?_
            refine z_s I (s_iload (pc' := 68) 5 rfl D_Ranking_order_2.1.1.2.2 rfl) ?_
            refine z_b1 (fun h25 q24 => ?_)
            refine z_callV (pc' := 71) I mv_Ranking_insert ml_Ranking_55 (fun ad => [vI x4, vI x5]) ⟨Nat.le_of_ble_eq_true rfl, Nat.le_of_ble_eq_true rfl⟩ ao (fun hh => c_Ranking_insert hw ao ax4 ax5 hh q24) rfl rfl (Nat.le_of_ble_eq_true rfl) D_Ranking_order_2.1.2.1.1 rfl (fun f23 => ?_)
            refine z_s I (s_iinc (pc' := 74) (lv' := [(5, vI (w32 (x5 + 1))), (0, vR ad o), (1, vR ad r1), (2, vR ad r2), (3, vI x3), (4, vI x4)]) (n := 5) rfl D_Ranking_order_2.1.2.1.2 (by decide) rfl rfl) ?_
            refine z_s I (s_goto (tgt := 23) D_Ranking_order_2.1.2.2.1 rfl) ?_
            refine z_s I (s_lv (lv' := [(0, vR ad o), (1, vR ad r1), (2, vR ad r2), (3, vI x3), (4, vI x4), (5, vI (w32 (x5 + 1)))]) [1, 2, 3, 4, 5, 0] rfl) ?_
            exact z_end (fun g => hin2_2 _ g (inR_w32 _))
    show Z Y (m_Ranking_order_L8b o r1 r2 x3 x4 h) G1 h 8 [(0, vR ad o), (1, vR ad r1), (2, vR ad r2), (3, vI x3), (4, vI x4)] []
    unfold m_Ranking_order_L8b
    refine z_s I (s_iload (pc' := 10) 4 rfl D_Ranking_order_0.1.2.1.2 rfl) ?_
    refine z_s I (s_aload_n (pc' := 11) 1 rfl D_Ranking_order_0.1.2.2.1 rfl rfl) ?_
    refine z_getI (pc' := 14) (jI := 1) I g_Ranking_42 ar1 rfl rfl D_Ranking_order_0.1.2.2.2 rfl (fun f26 => ?_)
    refine z_icmp_ge (tgt := 83) (pc' := 17) I ax4 f26 D_Ranking_order_0.2.1.1.1 rfl rfl (fun c27 => ?_) (fun c27 => ?_)
    · refine z_map _ (fun x g => hout1 x g) ?_
      refine z_s I (s_lv (lv' := [(0, vR ad o), (1, vR ad r1)]) [0, 1] rfl) ?_
      exact J83 _
    · refine z_s I (s_iload (pc' := 19) 4 rfl D_Ranking_order_0.2.1.1.2 rfl) ?_
      refine z_s I (s_iconst (pc' := 20) D_Ranking_order_0.2.1.2.1 rfl) ?_
      refine z_s I (s_iadd (pc' := 21) D_Ranking_order_0.2.1.2.2 rfl) ?_
      refine z_bI (inR_w32 _) (fun v28 e29 f30 => ?_)
      refine z_s I (s_istore (pc' := 23) (lv' := [(5, vI v28), (0, vR ad o), (1, vR ad r1), (2, vR ad r2), (3, vI x3), (4, vI x4)]) D_Ranking_order_0.2.2.1.1 (by decide) rfl rfl) ?_
      refine z_s I (s_lv (lv' := [(0, vR ad o), (1, vR ad r1), (2, vR ad r2), (3, vI x3), (4, vI x4), (5, vI v28)]) [1, 2, 3, 4, 5, 0] rfl) ?_
      exact L23 _ ax4 _ f30
  have main : Z Y (m_Ranking_order o r1 r2 x3 h) G0 h 0 [(0, vR ad o), (1, vR ad r1), (2, vR ad r2), (3, vI x3)] [] := by
    unfold m_Ranking_order
    refine z_s I (s_aload_n (pc' := 1) 0 rfl D_Ranking_order_0.1.1.1.1 rfl rfl) ?_
    refine z_s I (s_iconst (pc' := 2) D_Ranking_order_0.1.1.1.2 rfl) ?_
    refine z_putI (pc' := 5) (jI := 0) I p_Ranking_9 ao rfl rfl (b01.R bz0) D_Ranking_order_0.1.1.2.1 rfl ?_
    refine z_bH (fun h31 e32 => ?_)
    refine z_s I (s_iconst (pc' := 6) D_Ranking_order_0.1.1.2.2 rfl) ?_
    refine z_s I (s_istore (pc' := 8) (lv' := [(4, vI 0), (0, vR ad o), (1, vR ad r1), (2, vR ad r2), (3, vI x3)]) D_Ranking_order_0.1.2.1.1 (by decide) rfl rfl) ?_
    refine z_s I (s_lv (lv' := [(0, vR ad o), (1, vR ad r1), (2, vR ad r2), (3, vI x3), (4, vI 0)]) [1, 2, 3, 4, 0] rfl) ?_
    exact L8 _ (b01.R bz0)
  exact main _ hF (by rw [hG0])
set_option maxHeartbeats 4000000 in
set_option maxRecDepth 20000 in
theorem c_Cb_rankNow {l : Launch} {τ : TP} {o : Int} {h : HP} {h' : HP} (hw : wf τ) (ao : ok τ (4, 9) o) (hh : hr τ h) (hF : m_Cb_rankNow o h = some h') : Ctr l y_Cb_rankNow k_Cb_rankNow 1 (Option.none : Option FieldType) 5 138 τ (fun ad => [vR ad o]) h none h' (True) := by
  refine ctr_of (by decide) hw hh (fun ad => Nat.le_of_ble_eq_true rfl) (fun ad K Y I hK => ?_)
  obtain ⟨G0, hG0⟩ : ∃ G : HP → Prop, G = fun x => x = h' := ⟨_, rfl⟩
  have gk0 : ∀ (x : HP), G0 x → K none x := fun x g => by
    rw [hG0] at g
    cases g
    exact hK trivial
  have main : Z Y (m_Cb_rankNow o h) G0 h 0 [(0, vR ad o)] [] := by
    unfold m_Cb_rankNow
    refine z_s I (s_aload_n (pc' := 1) 0 rfl D_Cb_rankNow_0.1.1.1 rfl rfl) ?_
    refine z_getR (pc' := 4) (eI := o + 99) I g_Cb_61 ao rfl (by omega) D_Cb_rankNow_0.1.1.2.1 rfl ?_
    have k1 : ok τ (4, 4) (o + 99) := r_Cb_ranking hw ao (by omega)
    refine z_s I (s_aload_n (pc' := 5) 0 rfl D_Cb_rankNow_0.1.1.2.2 rfl rfl) ?_
    refine z_getR (pc' := 8) (eI := o + 1) I g_Cb_12 ao rfl (by omega) D_Cb_rankNow_0.1.2.1 rfl ?_
    have k2 : ok τ (4, 1) (o + 1) := r_Cb_now hw ao (by omega)
    refine z_s I (s_aload_n (pc' := 9) 0 rfl D_Cb_rankNow_0.1.2.2.1 rfl rfl) ?_
    refine z_getR (pc' := 12) (eI := o + 94) I g_Cb_44 ao rfl (by omega) D_Cb_rankNow_0.1.2.2.2 rfl ?_
    have k3 : ok τ (4, 3) (o + 94) := r_Cb_odds hw ao (by omega)
    refine z_s I (s_aload_n (pc' := 13) 0 rfl D_Cb_rankNow_0.2.1.1 rfl rfl) ?_
    refine z_getR (pc' := 16) (eI := o + 1) I g_Cb_12 ao rfl (by omega) D_Cb_rankNow_0.2.1.2.1 rfl ?_
    have k4 : ok τ (4, 1) (o + 1) := r_Cb_now hw ao (by omega)
    refine z_getR (pc' := 19) (eI := o + 24) I g_Cb_165 k4 rfl (by omega) D_Cb_rankNow_0.2.1.2.2 rfl ?_
    have k5 : ok τ (0, 6) (o + 24) := r_Exam_used hw k4 (by omega)
    refine z_s I (s_iconst (pc' := 20) D_Cb_rankNow_0.2.2.1.1 rfl) ?_
    refine z_g (c := 0 ≤ (0 : Int) ∧ (0 : Int) < 6) (by decide) ?_
    refine z_iald (pc' := 21) (nI := 6) I k5 (b01.R bz0) rfl D_Cb_rankNow_0.2.2.1.2 rfl (fun c6 f7 => ?_)
    refine z_b1 (fun h10 q9 => ?_)
    refine z_callV (pc' := 24) I mv_Ranking_order ml_Cb_309 (fun ad => [vR ad (o + 1), vR ad (o + 94), vI (h (o + 24) 0)]) ⟨Nat.le_of_ble_eq_true rfl, Nat.le_of_ble_eq_true rfl⟩ k1 (fun hh => c_Ranking_order hw k1 k2 k3 f7 hh q9) rfl rfl (Nat.le_of_ble_eq_true rfl) D_Cb_rankNow_0.2.2.2.1 rfl (fun f8 => ?_)
    exact z_ret (w := none) I (fun g => gk0 _ g) rfl D_Cb_rankNow_0.2.2.2.2 rfl
  exact main _ hF (by rw [hG0])
set_option maxHeartbeats 4000000 in
set_option maxRecDepth 20000 in
theorem c_Links_take {l : Launch} {τ : TP} {o : Int} {r1 : Int} {h : HP} {h' : HP} (hw : wf τ) (ao : ok τ (4, 2) o) (ar1 : ok τ (4, 4) r1) (hh : hr τ h) (hF : m_Links_take o r1 h = some h') : Ctr l y_Links_take k_Links_take 5 (Option.none : Option FieldType) 0 0 τ (fun ad => [vR ad o, vR ad r1]) h none h' (True) := by
  refine ctr_of (by decide) hw hh (fun ad => Nat.le_of_ble_eq_true rfl) (fun ad K Y I hK => ?_)
  obtain ⟨G0, hG0⟩ : ∃ G : HP → Prop, G = fun x => x = h' := ⟨_, rfl⟩
  have gk0 : ∀ (x : HP), G0 x → K none x := fun x g => by
    rw [hG0] at g
    cases g
    exact hK trivial
  have L23 : ∀ (s : Int × HP), (inR (s.1)) → Z Y (m_Links_take_L23 o r1 s) G0 (s.2) 23 [(0, vR ad o), (1, vR ad r1), (2, vI (s.1))] [] := by
    intro s hs
    refine z_loop (G := G0) (hO := fun s : Int × HP => s.2) (lO := fun s : Int × HP => [(0, vR ad o), (1, vR ad r1), (2, vI (s.1))]) (Φ := fun s : Int × HP => inR (s.1)) (fun G1 hin1_1 hout1 s hs => ?_) FUEL s hs
    obtain ⟨x2, h⟩ := s
    have ax2 := hs
    have gk1 := fun (x : HP) (g : G1 (.inr (x))) => gk0 x (hout1 _ g)
    show Z Y (m_Links_take_L23b o r1 x2 h) G1 h 23 [(0, vR ad o), (1, vR ad r1), (2, vI x2)] []
    unfold m_Links_take_L23b
    refine z_s I (s_iload_n (pc' := 24) 2 rfl D_Links_take_0.2.2.2.1 rfl rfl) ?_
    refine z_s I (s_aload_n (pc' := 25) 1 rfl D_Links_take_0.2.2.2.2 rfl rfl) ?_
    refine z_getI (pc' := 28) (jI := 1) I g_Links_15 ar1 rfl rfl D_Links_take_1.1.1.1.1 rfl (fun f1 => ?_)
    refine z_icmp_ge (tgt := 78) (pc' := 31) I ax2 f1 D_Links_take_1.1.1.1.2 rfl rfl (fun c2 => ?_) (fun c2 => ?_)
    · exact z_ret (w := none) I (fun g => gk1 _ g) rfl D_Links_take_3.2.2 rfl
    · refine z_s I (s_aload_n (pc' := 32) 1 rfl D_Links_take_1.1.1.2.1 rfl rfl) ?_
      refine z_getR (pc' := 35) (eI := r1 + 1) I g_Links_21 ar1 rfl (by omega) D_Links_take_1.1.1.2.2 rfl ?_
      have k3 : ok τ (0, 28) (r1 + 1) := r_Ranking_lower hw ar1 (by omega)
      refine z_s I (s_iload_n (pc' := 36) 2 rfl D_Links_take_1.1.2.1.1 rfl rfl) ?_
      refine z_iald (pc' := 37) (nI := 28) I k3 ax2 rfl D_Links_take_1.1.2.1.2 rfl (fun c4 f5 => ?_)
      refine z_bI f5 (fun v6 e7 f8 => ?_)
      refine z_s I (s_istore_n (pc' := 38) (lv' := [(3, vI v6), (0, vR ad o), (1, vR ad r1), (2, vI x2)]) D_Links_take_1.1.2.2.1 rfl (by decide) rfl rfl) ?_
      refine z_s I (s_aload_n (pc' := 39) 2 rfl D_Links_take_1.1.2.2.2 rfl rfl) ?_
      refine z_getR (pc' := 42) (eI := r1 + 2) I g_Links_24 ar1 rfl (by omega) D_Links_take_1.2.1.1.1 rfl ?_
      have k9 : ok τ (0, 28) (r1 + 2) := r_Ranking_upper hw ar1 (by omega)
      refine z_s I (s_iload_n (pc' := 43) 3 rfl D_Links_take_1.2.1.1.2 rfl rfl) ?_
      refine z_iald (pc' := 44) (nI := 28) I k9 ax2 rfl D_Links_take_1.2.1.2.1 rfl (fun c10 f11 => ?_)
      refine z_bI f11 (fun v12 e13 f14 => ?_)
      refine z_s I (s_istore (pc' := 46) (lv' := [(4, vI v12), (3, vI v6), (0, vR ad o), (1, vR ad r1), (2, vI x2)]) D_Links_take_1.2.1.2.2 (by decide) rfl rfl) ?_
      refine z_s I (s_aload_n (pc' := 47) 2 rfl D_Links_take_1.2.2.1.1 rfl rfl) ?_
      refine z_getR (pc' := 50) (eI := o + 1) I g_Links_9 ao rfl (by omega) D_Links_take_1.2.2.1.2 rfl ?_
      have k15 : ok τ (0, 8) (o + 1) := r_Links_suspectWith hw ao (by omega)
      refine z_s I (s_iload_n (pc' := 51) 1 rfl D_Links_take_1.2.2.2.1 rfl rfl) ?_
      refine z_s I (s_dup2 (pc' := 52) rfl rfl D_Links_take_1.2.2.2.2 rfl) ?_
      refine z_iald (pc' := 53) (nI := 8) I k15 f8 rfl D_Links_take_2.1.1.1.1 rfl (fun c16 f17 => ?_)
      refine z_s I (s_iconst (pc' := 54) D_Links_take_2.1.1.1.2 rfl) ?_
      refine z_s I (s_iload (pc' := 56) 0 rfl D_Links_take_2.1.1.2.1 rfl) ?_
      refine z_s I (s_ishl (pc' := 57) D_Links_take_2.1.1.2.2 rfl) ?_
      refine z_s I (s_ior (pc' := 58) D_Links_take_2.1.2.1.1 rfl) ?_
      refine z_iast (pc' := 59) (nI := 8) I k15 f8 (r_iOr _ _) rfl D_Links_take_2.1.2.1.2 rfl (fun c18 => ?_)
      refine z_bH (fun h19 e20 => ?_)
      refine z_s I (s_aload_n (pc' := 60) 2 rfl D_Links_take_2.1.2.2.1 rfl rfl) ?_
      refine z_getR (pc' := 63) (eI := o + 1) I g_Links_9 ao rfl (by omega) D_Links_take_2.1.2.2.2 rfl ?_
      have k21 : ok τ (0, 8) (o + 1) := r_Links_suspectWith hw ao (by omega)
      refine z_s I (s_iload (pc' := 65) 0 rfl D_Links_take_2.2.1.1.1 rfl) ?_
      refine z_s I (s_dup2 (pc' := 66) rfl rfl D_Links_take_2.2.1.1.2 rfl) ?_
      refine z_iald (pc' := 67) (nI := 8) I k21 f14 rfl D_Links_take_2.2.1.2.1 rfl (fun c22 f23 => ?_)
      refine z_s I (s_iconst (pc' := 68) D_Links_take_2.2.1.2.2 rfl) ?_
      refine z_s I (s_iload_n (pc' := 69) 1 rfl D_Links_take_2.2.2.1.1 rfl rfl) ?_
      refine z_s I (s_ishl (pc' := 70) D_Links_take_2.2.2.1.2 rfl) ?_
      refine z_s I (s_ior (pc' := 71) D_Links_take_2.2.2.2.1 rfl) ?_
      refine z_iast (pc' := 72) (nI := 8) I k21 f14 (r_iOr _ _) rfl D_Links_take_2.2.2.2.2 rfl (fun c24 => ?_)
      refine z_bH (fun h25 e26 => ?_)
      refine z_s I (s_iinc (pc' := 75) (lv' := [(2, vI (w32 (x2 + 1))), (4, vI v12), (3, vI v6), (0, vR ad o), (1, vR ad r1)]) (n := 4) rfl D_Links_take_3.1 (by decide) rfl rfl) ?_
      refine z_s I (s_goto (tgt := 23) D_Links_take_3.2.1 rfl) ?_
      refine z_s I (s_lv (lv' := [(0, vR ad o), (1, vR ad r1), (2, vI (w32 (x2 + 1)))]) [3, 4, 0] rfl) ?_
      exact z_end (fun g => hin1_1 _ g (inR_w32 _))
  have L2 : ∀ (s : Int × HP), (inR (s.1)) → Z Y (m_Links_take_L2 o r1 s) G0 (s.2) 2 [(0, vR ad o), (1, vR ad r1), (2, vI (s.1))] [] := by
    intro s hs
    refine z_loop (G := G0) (hO := fun s : Int × HP => s.2) (lO := fun s : Int × HP => [(0, vR ad o), (1, vR ad r1), (2, vI (s.1))]) (Φ := fun s : Int × HP => inR (s.1)) (fun G1 hin1_1 hout1 s hs => ?_) FUEL s hs
    obtain ⟨x2, h⟩ := s
    have ax2 := hs
    have gk1 := fun (x : HP) (g : G1 (.inr (x))) => gk0 x (hout1 _ g)
    show Z Y (m_Links_take_L2b o r1 x2 h) G1 h 2 [(0, vR ad o), (1, vR ad r1), (2, vI x2)] []
    unfold m_Links_take_L2b
    refine z_s I (s_iload_n (pc' := 3) 2 rfl D_Links_take_0.1.1.2.1 rfl rfl) ?_
    refine z_s I (s_bipush (pc' := 5) D_Links_take_0.1.1.2.2 rfl rfl) ?_
    refine z_icmp_ge (tgt := 21) (pc' := 8) I ax2 (inR_c (x := 8) rfl) D_Links_take_0.1.2.1.1 rfl rfl (fun c27 => ?_) (fun c27 => ?_)
    · refine z_s I (s_iconst (pc' := 22) D_Links_take_0.2.2.1.1 rfl) ?_
      refine z_s I (s_istore_n (pc' := 23) (lv' := [(2, vI 0), (0, vR ad o), (1, vR ad r1)]) D_Links_take_0.2.2.1.2 rfl (by decide) rfl rfl) ?_
      refine z_map _ (fun x g => hout1 x g) ?_
      refine z_s I (s_lv (lv' := [(0, vR ad o), (1, vR ad r1), (2, vI 0)]) [1, 2, 0] rfl) ?_
      exact L23 _ (b01.R bz0)
    · refine z_s I (s_aload_n (pc' := 9) 0 rfl D_Links_take_0.1.2.1.2 rfl rfl) ?_
      refine z_getR (pc' := 12) (eI := o + 1) I g_Links_9 ao rfl (by omega) D_Links_take_0.1.2.2.1 rfl ?_
      have k28 : ok τ (0, 8) (o + 1) := r_Links_suspectWith hw ao (by omega)
      refine z_s I (s_iload_n (pc' := 13) 2 rfl D_Links_take_0.1.2.2.2 rfl rfl) ?_
      refine z_s I (s_iconst (pc' := 14) D_Links_take_0.2.1.1.1 rfl) ?_
      refine z_iast (pc' := 15) (nI := 8) I k28 ax2 (b01.R bz0) rfl D_Links_take_0.2.1.1.2 rfl (fun c29 => ?_)
      refine z_bH (fun h30 e31 => ?_)
      refine z_s I (s_iinc (pc' := 18) (lv' := [(2, vI (w32 (x2 + 1))), (0, vR ad o), (1, vR ad r1)]) (n := 2) rfl D_Links_take_0.2.1.2.1 (by decide) rfl rfl) ?_
      refine z_s I (s_goto (tgt := 2) D_Links_take_0.2.1.2.2 rfl) ?_
      refine z_s I (s_lv (lv' := [(0, vR ad o), (1, vR ad r1), (2, vI (w32 (x2 + 1)))]) [1, 2, 0] rfl) ?_
      exact z_end (fun g => hin1_1 _ g (inR_w32 _))
  have main : Z Y (m_Links_take o r1 h) G0 h 0 [(0, vR ad o), (1, vR ad r1)] [] := by
    unfold m_Links_take
    refine z_s I (s_iconst (pc' := 1) D_Links_take_0.1.1.1.1 rfl) ?_
    refine z_s I (s_istore_n (pc' := 2) (lv' := [(2, vI 0), (0, vR ad o), (1, vR ad r1)]) D_Links_take_0.1.1.1.2 rfl (by decide) rfl rfl) ?_
    refine z_s I (s_lv (lv' := [(0, vR ad o), (1, vR ad r1), (2, vI 0)]) [1, 2, 0] rfl) ?_
    exact L2 _ (b01.R bz0)
  exact main _ hF (by rw [hG0])
