set_option maxHeartbeats 4000000 in
set_option maxRecDepth 20000 in
theorem c_Cb_linkNow {l : Launch} {τ : TP} {o : Int} {h : HP} {h' : HP} (hw : wf τ) (ao : ok τ (4, 9) o) (hh : hr τ h) (hF : m_Cb_linkNow o h = some h') : Ctr l y_Cb_linkNow k_Cb_linkNow 1 (Option.none : Option FieldType) 5 138 τ (fun ad => [vR ad o]) h none h' (True) := by
  refine ctr_of (by decide) hw hh (fun ad => Nat.le_of_ble_eq_true rfl) (fun ad K Y I hK => ?_)
  obtain ⟨G0, hG0⟩ : ∃ G : HP → Prop, G = fun x => x = h' := ⟨_, rfl⟩
  have gk0 : ∀ (x : HP), G0 x → K none x := fun x g => by
    rw [hG0] at g
    cases g
    exact hK trivial
  have main : Z Y (m_Cb_linkNow o h) G0 h 0 [(0, vR ad o)] [] := by
    unfold m_Cb_linkNow
    refine z_s I (s_aload_n (pc' := 1) 0 rfl D_Cb_linkNow_0.1.1.1.1 rfl rfl) ?_
    refine z_getR (pc' := 4) (eI := o + 99) I g_Cb_61 ao rfl (by omega) D_Cb_linkNow_0.1.1.1.2 rfl ?_
    have k1 : ok τ (4, 4) (o + 99) := r_Cb_ranking hw ao (by omega)
    refine z_s I (s_aload_n (pc' := 5) 0 rfl D_Cb_linkNow_0.1.1.2.1 rfl rfl) ?_
    refine z_getR (pc' := 8) (eI := o + 1) I g_Cb_12 ao rfl (by omega) D_Cb_linkNow_0.1.1.2.2 rfl ?_
    have k2 : ok τ (4, 1) (o + 1) := r_Cb_now hw ao (by omega)
    refine z_s I (s_aload_n (pc' := 9) 0 rfl D_Cb_linkNow_0.1.2.1.1 rfl rfl) ?_
    refine z_getR (pc' := 12) (eI := o + 94) I g_Cb_44 ao rfl (by omega) D_Cb_linkNow_0.1.2.1.2 rfl ?_
    have k3 : ok τ (4, 3) (o + 94) := r_Cb_odds hw ao (by omega)
    refine z_s I (s_aload_n (pc' := 13) 0 rfl D_Cb_linkNow_0.1.2.2.1 rfl rfl) ?_
    refine z_getR (pc' := 16) (eI := o + 1) I g_Cb_12 ao rfl (by omega) D_Cb_linkNow_0.1.2.2.2 rfl ?_
    have k4 : ok τ (4, 1) (o + 1) := r_Cb_now hw ao (by omega)
    refine z_getR (pc' := 19) (eI := o + 24) I g_Cb_165 k4 rfl (by omega) D_Cb_linkNow_0.2.1.1.1 rfl ?_
    have k5 : ok τ (0, 6) (o + 24) := r_Exam_used hw k4 (by omega)
    refine z_s I (s_iconst (pc' := 20) D_Cb_linkNow_0.2.1.1.2 rfl) ?_
    refine z_g (c := 0 ≤ (0 : Int) ∧ (0 : Int) < 6) (by decide) ?_
    refine z_iald (pc' := 21) (nI := 6) I k5 (b01.R bz0) rfl D_Cb_linkNow_0.2.1.2.1 rfl (fun c6 f7 => ?_)
    refine z_b1 (fun h10 q9 => ?_)
    refine z_callV (pc' := 24) I mv_Ranking_order ml_Cb_309 (fun ad => [vR ad (o + 1), vR ad (o + 94), vI (h (o + 24) 0)]) ⟨Nat.le_of_ble_eq_true rfl, Nat.le_of_ble_eq_true rfl⟩ k1 (fun hh => c_Ranking_order hw k1 k2 k3 f7 hh q9) rfl rfl (Nat.le_of_ble_eq_true rfl) D_Cb_linkNow_0.2.1.2.2 rfl (fun f8 => ?_)
    refine z_s I (s_aload_n (pc' := 25) 0 rfl D_Cb_linkNow_0.2.2.1.1 rfl rfl) ?_
    refine z_getR (pc' := 28) (eI := o + 106) I g_Cb_68 ao rfl (by omega) D_Cb_linkNow_0.2.2.1.2 rfl ?_
    have k11 : ok τ (4, 2) (o + 106) := r_Cb_links hw ao (by omega)
    refine z_s I (s_aload_n (pc' := 29) 0 rfl D_Cb_linkNow_0.2.2.2.1 rfl rfl) ?_
    refine z_getR (pc' := 32) (eI := o + 99) I g_Cb_61 ao rfl (by omega) D_Cb_linkNow_0.2.2.2.2 rfl ?_
    have k12 : ok τ (4, 4) (o + 99) := r_Cb_ranking hw ao (by omega)
    refine z_b1 (fun h15 q14 => ?_)
    refine z_callV (pc' := 35) I mv_Links_take ml_Cb_375 (fun ad => [vR ad (o + 99)]) ⟨Nat.le_of_ble_eq_true rfl, Nat.le_of_ble_eq_true rfl⟩ k11 (fun hh => c_Links_take hw k11 k12 hh q14) rfl rfl (Nat.le_of_ble_eq_true rfl) D_Cb_linkNow_1.1 rfl (fun f13 => ?_)
    exact z_ret (w := none) I (fun g => gk0 _ g) rfl D_Cb_linkNow_1.2 rfl
  exact main _ hF (by rw [hG0])
set_option maxHeartbeats 4000000 in
set_option maxRecDepth 20000 in
theorem c_Jint_bitCount {l : Launch} {τ : TP} {x0 : Int} {h : HP} {r : Int} (hw : wf τ) (ax0 : inR x0) (hh : hr τ h) (hF : m_Jint_bitCount x0 h = some r) : Ctr l y_Jint_bitCount k_Jint_bitCount 1 (Option.some FieldType.int) 0 0 τ (fun ad => [vI x0]) h (some (vI r)) h (inR r) := by
  refine ctr_of (by decide) hw hh (fun ad => Nat.le_of_ble_eq_true rfl) (fun ad K Y I hK => ?_)
  obtain ⟨G0, hG0⟩ : ∃ G : Int → Prop, G = fun x => x = r := ⟨_, rfl⟩
  have gk0 : ∀ (x : Int), G0 x → inR x → K (some (vI x)) h := fun x g q => by
    rw [hG0] at g
    cases g
    exact hK q
  have main : Z Y (m_Jint_bitCount x0 h) G0 h 0 [(0, vI x0)] [] := by
    unfold m_Jint_bitCount
    refine z_s I (s_iload_n (pc' := 1) 0 rfl D_Jint_bitCount_0.1.1.1.1 rfl rfl) ?_
    refine z_s I (s_iload_n (pc' := 2) 0 rfl D_Jint_bitCount_0.1.1.1.2 rfl rfl) ?_
    refine z_s I (s_iconst (pc' := 3) D_Jint_bitCount_0.1.1.2.1 rfl) ?_
    refine z_s I (s_iushr (pc' := 4) D_Jint_bitCount_0.1.1.2.2 rfl) ?_
    refine z_ldcw (pc' := 7) (x := 1431655765) I cn_Jint_265 (by decide +kernel) D_Jint_bitCount_0.1.2.1.1 rfl ?_
    refine z_s I (s_iand (pc' := 8) D_Jint_bitCount_0.1.2.1.2 rfl) ?_
    refine z_s I (s_isub (pc' := 9) D_Jint_bitCount_0.1.2.2.1 rfl) ?_
    refine z_bI (inR_w32 _) (fun v1 e2 f3 => ?_)
    refine z_s I (s_istore_n (pc' := 10) (lv' := [(0, vI v1)]) D_Jint_bitCount_0.1.2.2.2 rfl (by decide) rfl rfl) ?_
    refine z_s I (s_iload_n (pc' := 11) 0 rfl D_Jint_bitCount_0.2.1.1.1 rfl rfl) ?_
    refine z_ldcw (pc' := 14) (x := 858993459) I cn_Jint_266 (by decide +kernel) D_Jint_bitCount_0.2.1.1.2 rfl ?_
    refine z_s I (s_iand (pc' := 15) D_Jint_bitCount_0.2.1.2.1 rfl) ?_
    refine z_s I (s_iload_n (pc' := 16) 0 rfl D_Jint_bitCount_0.2.1.2.2 rfl rfl) ?_
    refine z_s I (s_iconst (pc' := 17) D_Jint_bitCount_0.2.2.1.1 rfl) ?_
    refine z_s I (s_iushr (pc' := 18) D_Jint_bitCount_0.2.2.1.2 rfl) ?_
    refine z_ldcw (pc' := 21) (x := 858993459) I cn_Jint_266 (by decide +kernel) D_Jint_bitCount_0.2.2.2.1 rfl ?_
    refine z_s I (s_iand (pc' := 22) D_Jint_bitCount_0.2.2.2.2 rfl) ?_
    refine z_s I (s_iadd (pc' := 23) D_Jint_bitCount_1.1.1.1.1 rfl) ?_
    refine z_bI (inR_w32 _) (fun v4 e5 f6 => ?_)
    refine z_s I (s_istore_n (pc' := 24) (lv' := [(0, vI v4)]) D_Jint_bitCount_1.1.1.1.2 rfl (by decide) rfl rfl) ?_
    refine z_s I (s_iload_n (pc' := 25) 0 rfl D_Jint_bitCount_1.1.1.2.1 rfl rfl) ?_
    refine z_s I (s_iload_n (pc' := 26) 0 rfl D_Jint_bitCount_1.1.1.2.2 rfl rfl) ?_
    refine z_s I (s_iconst (pc' := 27) D_Jint_bitCount_1.1.2.1.1 rfl) ?_
    refine z_s I (s_iushr (pc' := 28) D_Jint_bitCount_1.1.2.1.2 rfl) ?_
    refine z_s I (s_iadd (pc' := 29) D_Jint_bitCount_1.1.2.2.1 rfl) ?_
    refine z_ldcw (pc' := 32) (x := 252645135) I cn_Jint_267 (by decide +kernel) D_Jint_bitCount_1.1.2.2.2 rfl ?_
    refine z_s I (s_iand (pc' := 33) D_Jint_bitCount_1.2.1.1.1 rfl) ?_
    refine z_bI (r_iAnd _ _) (fun v7 e8 f9 => ?_)
    refine z_s I (s_istore_n (pc' := 34) (lv' := [(0, vI v7)]) D_Jint_bitCount_1.2.1.1.2 rfl (by decide) rfl rfl) ?_
    refine z_s I (s_iload_n (pc' := 35) 0 rfl D_Jint_bitCount_1.2.1.2.1 rfl rfl) ?_
    refine z_s I (s_iload_n (pc' := 36) 0 rfl D_Jint_bitCount_1.2.1.2.2 rfl rfl) ?_
    refine z_s I (s_bipush (pc' := 38) D_Jint_bitCount_1.2.2.1.1 rfl rfl) ?_
    refine z_s I (s_iushr (pc' := 39) D_Jint_bitCount_1.2.2.1.2 rfl) ?_
    refine z_s I (s_iadd (pc' := 40) D_Jint_bitCount_1.2.2.2.1 rfl) ?_
    refine z_bI (inR_w32 _) (fun v10 e11 f12 => ?_)
    refine z_s I (s_istore_n (pc' := 41) (lv' := [(0, vI v10)]) D_Jint_bitCount_1.2.2.2.2 rfl (by decide) rfl rfl) ?_
    refine z_s I (s_iload_n (pc' := 42) 0 rfl D_Jint_bitCount_2.1.1.1 rfl rfl) ?_
    refine z_s I (s_iload_n (pc' := 43) 0 rfl D_Jint_bitCount_2.1.1.2 rfl rfl) ?_
    refine z_s I (s_bipush (pc' := 45) D_Jint_bitCount_2.1.2.1 rfl rfl) ?_
    refine z_s I (s_iushr (pc' := 46) D_Jint_bitCount_2.1.2.2.1 rfl) ?_
    refine z_s I (s_iadd (pc' := 47) D_Jint_bitCount_2.1.2.2.2 rfl) ?_
    refine z_bI (inR_w32 _) (fun v13 e14 f15 => ?_)
    refine z_s I (s_istore_n (pc' := 48) (lv' := [(0, vI v13)]) D_Jint_bitCount_2.2.1.1 rfl (by decide) rfl rfl) ?_
    refine z_s I (s_iload_n (pc' := 49) 0 rfl D_Jint_bitCount_2.2.1.2 rfl rfl) ?_
    refine z_s I (s_bipush (pc' := 51) D_Jint_bitCount_2.2.2.1 rfl rfl) ?_
    refine z_s I (s_iand (pc' := 52) D_Jint_bitCount_2.2.2.2.1 rfl) ?_
    exact z_ret (w := some (vI (iAnd v13 63))) I (fun g => gk0 _ g (r_iAnd _ _)) ⟨_, rfl⟩ D_Jint_bitCount_2.2.2.2.2 rfl
  exact main _ hF (by rw [hG0])
set_option maxHeartbeats 4000000 in
set_option maxRecDepth 20000 in
theorem c_Links_isGroup {l : Launch} {τ : TP} {o : Int} {x1 : Int} {h : HP} {r : Int} (hw : wf τ) (ao : ok τ (4, 2) o) (ax1 : inR x1) (hh : hr τ h) (hF : m_Links_isGroup o x1 h = some r) : Ctr l y_Links_isGroup k_Links_isGroup 4 (Option.some FieldType.boolean) 1 20 τ (fun ad => [vR ad o, vI x1]) h (some (vI r)) h (b01 r) := by
  refine ctr_of (by decide) hw hh (fun ad => Nat.le_of_ble_eq_true rfl) (fun ad K Y I hK => ?_)
  obtain ⟨G0, hG0⟩ : ∃ G : Int → Prop, G = fun x => x = r := ⟨_, rfl⟩
  have gk0 : ∀ (x : Int), G0 x → b01 x → K (some (vI x)) h := fun x g q => by
    rw [hG0] at g
    cases g
    exact hK q
  have J63 : ∀ (x2 : Int) (ax2 : inR x2), Z Y (m_Links_isGroup_J63 x2 h) G0 h 63 [(2, vI x2)] [] := by
    intro x2 ax2
    unfold m_Links_isGroup_J63
    refine z_s I (s_iload_n (pc' := 64) 0 rfl D_Links_isGroup_2.2.1.2.1 rfl rfl) ?_
    refine z_if_ne (tgt := 71) (pc' := 67) I ax2 D_Links_isGroup_2.2.1.2.2 rfl rfl (fun c1 => ?_) (fun c1 => ?_)
    · refine z_s I (s_iconst (pc' := 72) D_Links_isGroup_2.2.2.2.1 rfl) ?_
      exact z_ret (w := some (vI 0)) I (fun g => gk0 _ g bz0) ⟨_, bz0, rfl⟩ D_Links_isGroup_2.2.2.2.2 rfl
    · refine z_s I (s_iconst (pc' := 68) D_Links_isGroup_2.2.2.1.1 rfl) ?_
      refine z_s I (s_goto (tgt := 72) D_Links_isGroup_2.2.2.1.2 rfl) ?_
      exact z_ret (w := some (vI 1)) I (fun g => gk0 _ g bz1) ⟨_, bz1, rfl⟩ D_Links_isGroup_2.2.2.2.2 rfl
  have L16 : ∀ (s : Int × Int), (inR (s.1) ∧ inR (s.2)) → Z Y (m_Links_isGroup_L16 o x1 h s) G0 h 16 [(0, vR ad o), (1, vI x1), (2, vI (s.1)), (3, vI (s.2))] [] := by
    intro s hs
    refine z_loop (G := G0) (hO := fun s : Int × Int => h) (lO := fun s : Int × Int => [(0, vR ad o), (1, vI x1), (2, vI (s.1)), (3, vI (s.2))]) (Φ := fun s : Int × Int => inR (s.1) ∧ inR (s.2)) (fun G1 hin1_1 hout1 s hs => ?_) FUEL s hs
    obtain ⟨x2, x3⟩ := s
    obtain ⟨ax2, ax3⟩ := hs
    have gk1 := fun (x : Int) (g : G1 (.inr (x))) (q : b01 x) => gk0 x (hout1 _ g) q
    show Z Y (m_Links_isGroup_L16b o x1 h x2 x3) G1 h 16 [(0, vR ad o), (1, vI x1), (2, vI x2), (3, vI x3)] []
    unfold m_Links_isGroup_L16b
    refine z_s I (s_iload_n (pc' := 17) 3 rfl D_Links_isGroup_0.2.1.2.1 rfl rfl) ?_
    refine z_s I (s_bipush (pc' := 19) D_Links_isGroup_0.2.1.2.2 rfl rfl) ?_
    refine z_icmp_ge (tgt := 63) (pc' := 22) I ax3 (inR_c (x := 8) rfl) D_Links_isGroup_0.2.2.1.1 rfl rfl (fun c2 => ?_) (fun c2 => ?_)
    · refine z_map _ (fun x g => hout1 x g) ?_
      refine z_s I (s_lv (lv' := [(2, vI x2)]) [2] rfl) ?_
      exact J63 _ ax2
    · refine z_s I (s_iload_n (pc' := 23) 1 rfl D_Links_isGroup_0.2.2.1.2 rfl rfl) ?_
      refine z_s I (s_iload_n (pc' := 24) 3 rfl D_Links_isGroup_0.2.2.2.1 rfl rfl) ?_
      refine z_s I (s_ishr (pc' := 25) D_Links_isGroup_0.2.2.2.2 rfl) ?_
      refine z_s I (s_iconst (pc' := 26) D_Links_isGroup_1.1.1.1.1 rfl) ?_
      refine z_s I (s_iand (pc' := 27) D_Links_isGroup_1.1.1.1.2 rfl) ?_
      refine z_if_eq (tgt := 57) (pc' := 30) I (r_iAnd _ _) D_Links_isGroup_1.1.1.2.1 rfl rfl (fun c3 => ?_) (fun c3 => ?_)
      · refine z_s I (s_iinc (pc' := 60) (lv' := [(3, vI (w32 (x3 + 1))), (0, vR ad o), (1, vI x1), (2, vI x2)]) (n := 3) rfl D_Links_isGroup_2.2.1.1.1 (by decide) rfl rfl) ?_
        refine z_s I (s_goto (tgt := 16) D_Links_isGroup_2.2.1.1.2 rfl) ?_
        refine z_s I (s_lv (lv' := [(0, vR ad o), (1, vI x1), (2, vI x2), (3, vI (w32 (x3 + 1)))]) [1, 2, 3, 0] rfl) ?_
        exact z_end (fun g => hin1_1 _ g ⟨ax2, (inR_w32 _)⟩)
      · refine z_s I (s_iload_n (pc' := 31) 1 rfl D_Links_isGroup_1.1.1.2.2 rfl rfl) ?_
        refine z_s I (s_aload_n (pc' := 32) 0 rfl D_Links_isGroup_1.1.2.1.1 rfl rfl) ?_
        refine z_getR (pc' := 35) (eI := o + 1) I g_Links_9 ao rfl (by omega) D_Links_isGroup_1.1.2.1.2 rfl ?_
        have k4 : ok τ (0, 8) (o + 1) := r_Links_suspectWith hw ao (by omega)
        refine z_s I (s_iload_n (pc' := 36) 3 rfl D_Links_isGroup_1.1.2.2.1 rfl rfl) ?_
        refine z_iald (pc' := 37) (nI := 8) I k4 ax3 rfl D_Links_isGroup_1.1.2.2.2 rfl (fun c5 f6 => ?_)
        refine z_s I (s_iconst (pc' := 38) D_Links_isGroup_1.2.1.1.1 rfl) ?_
        refine z_s I (s_ixor (pc' := 39) D_Links_isGroup_1.2.1.1.2 rfl) ?_
        refine z_s I (s_iand (pc' := 40) D_Links_isGroup_1.2.1.2.1 rfl) ?_
        refine z_s I (s_iconst (pc' := 41) D_Links_isGroup_1.2.1.2.2 rfl) ?_
        refine z_s I (s_iload_n (pc' := 42) 3 rfl D_Links_isGroup_1.2.2.1.1 rfl rfl) ?_
        refine z_s I (s_ishl (pc' := 43) D_Links_isGroup_1.2.2.1.2 rfl) ?_
        refine z_icmp_eq (tgt := 48) (pc' := 46) I (r_iAnd _ _) (r_iShl _ _) D_Links_isGroup_1.2.2.2.1 rfl rfl (fun c7 => ?_) (fun c7 => ?_)
        · refine z_s I (s_iload_n (pc' := 49) 2 rfl D_Links_isGroup_2.1.1.1.2 rfl rfl) ?_
          refine z_s I (s_aload_n (pc' := 50) 0 rfl D_Links_isGroup_2.1.1.2.1 rfl rfl) ?_
          refine z_getR (pc' := 53) (eI := o + 1) I g_Links_9 ao rfl (by omega) D_Links_isGroup_2.1.1.2.2 rfl ?_
          have k8 : ok τ (0, 8) (o + 1) := r_Links_suspectWith hw ao (by omega)
          refine z_s I (s_iload_n (pc' := 54) 3 rfl D_Links_isGroup_2.1.2.1.1 rfl rfl) ?_
          refine z_iald (pc' := 55) (nI := 8) I k8 ax3 rfl D_Links_isGroup_2.1.2.1.2 rfl (fun c9 f10 => ?_)
          refine z_s I (s_iand (pc' := 56) D_Links_isGroup_2.1.2.2.1 rfl) ?_
          refine z_bI (r_iAnd _ _) (fun v11 e12 f13 => ?_)
          refine z_s I (s_istore_n (pc' := 57) (lv' := [(2, vI v11), (0, vR ad o), (1, vI x1), (3, vI x3)]) D_Links_isGroup_2.1.2.2.2 rfl (by decide) rfl rfl) ?_
          refine z_s I (s_iinc (pc' := 60) (lv' := [(3, vI (w32 (x3 + 1))), (2, vI v11), (0, vR ad o), (1, vI x1)]) (n := 3) rfl D_Links_isGroup_2.2.1.1.1 (by decide) rfl rfl) ?_
          refine z_s I (s_goto (tgt := 16) D_Links_isGroup_2.2.1.1.2 rfl) ?_
          refine z_s I (s_lv (lv' := [(0, vR ad o), (1, vI x1), (2, vI v11), (3, vI (w32 (x3 + 1)))]) [2, 3, 1, 0] rfl) ?_
          exact z_end (fun g => hin1_1 _ g ⟨f13, (inR_w32 _)⟩)
        · refine z_s I (s_iconst (pc' := 47) D_Links_isGroup_1.2.2.2.2 rfl) ?_
          exact z_ret (w := some (vI 0)) I (fun g => gk1 _ g bz0) ⟨_, bz0, rfl⟩ D_Links_isGroup_2.1.1.1.1 rfl
  have main : Z Y (m_Links_isGroup o x1 h) G0 h 0 [(0, vR ad o), (1, vI x1)] [] := by
    unfold m_Links_isGroup
    refine z_s I (s_iload_n (pc' := 1) 1 rfl D_Links_isGroup_0.1.1.1.1 rfl rfl) ?_
    refine z_b1 (fun r16 q15 => ?_)
    refine z_callS (pc' := 4) I mv_Jint_bitCount ml_Links_31 (fun ad => [vI x1]) ⟨Nat.le_of_ble_eq_true rfl, Nat.le_of_ble_eq_true rfl⟩ (fun hh => c_Jint_bitCount hw ax1 hh q15) rfl rfl (Nat.le_of_ble_eq_true rfl) D_Links_isGroup_0.1.1.1.2 rfl (fun f14 => ?_)
    refine z_s I (s_iconst (pc' := 5) D_Links_isGroup_0.1.1.2.1 rfl) ?_
    refine z_icmp_ge (tgt := 10) (pc' := 8) I f14 (inR_c (x := 2) rfl) D_Links_isGroup_0.1.1.2.2 rfl rfl (fun c17 => ?_) (fun c17 => ?_)
    · refine z_s I (s_sipush (pc' := 13) D_Links_isGroup_0.1.2.2.1 rfl rfl) ?_
      refine z_s I (s_istore_n (pc' := 14) (lv' := [(2, vI 255), (0, vR ad o), (1, vI x1)]) D_Links_isGroup_0.1.2.2.2 rfl (by decide) rfl rfl) ?_
      refine z_s I (s_iconst (pc' := 15) D_Links_isGroup_0.2.1.1.1 rfl) ?_
      refine z_s I (s_istore_n (pc' := 16) (lv' := [(3, vI 0), (2, vI 255), (0, vR ad o), (1, vI x1)]) D_Links_isGroup_0.2.1.1.2 rfl (by decide) rfl rfl) ?_
      refine z_s I (s_lv (lv' := [(0, vR ad o), (1, vI x1), (2, vI 255), (3, vI 0)]) [2, 3, 1, 0] rfl) ?_
      exact L16 _ ⟨(inR_c (x := 255) rfl), (b01.R bz0)⟩
    · refine z_s I (s_iconst (pc' := 9) D_Links_isGroup_0.1.2.1.1 rfl) ?_
      exact z_ret (w := some (vI 0)) I (fun g => gk0 _ g bz0) ⟨_, bz0, rfl⟩ D_Links_isGroup_0.1.2.1.2 rfl
  exact main _ hF (by rw [hG0])
set_option maxHeartbeats 4000000 in
set_option maxRecDepth 20000 in
theorem c_Links_groups {l : Launch} {τ : TP} {o : Int} {h : HP} {r : Int} (hw : wf τ) (ao : ok τ (4, 2) o) (hh : hr τ h) (hF : m_Links_groups o h = some r) : Ctr l y_Links_groups k_Links_groups 3 (Option.some FieldType.int) 2 43 τ (fun ad => [vR ad o]) h (some (vI r)) h (inR r) := by
  refine ctr_of (by decide) hw hh (fun ad => Nat.le_of_ble_eq_true rfl) (fun ad K Y I hK => ?_)
  obtain ⟨G0, hG0⟩ : ∃ G : Int → Prop, G = fun x => x = r := ⟨_, rfl⟩
  have gk0 : ∀ (x : Int), G0 x → inR x → K (some (vI x)) h := fun x g q => by
    rw [hG0] at g
    cases g
    exact hK q
  have L4 : ∀ (s : Int × Int), (inR (s.1) ∧ inR (s.2)) → Z Y (m_Links_groups_L4 o h s) G0 h 4 [(0, vR ad o), (1, vI (s.1)), (2, vI (s.2))] [] := by
    intro s hs
    refine z_loop (G := G0) (hO := fun s : Int × Int => h) (lO := fun s : Int × Int => [(0, vR ad o), (1, vI (s.1)), (2, vI (s.2))]) (Φ := fun s : Int × Int => inR (s.1) ∧ inR (s.2)) (fun G1 hin1_1 hout1 s hs => ?_) FUEL s hs
    obtain ⟨x1, x2⟩ := s
    obtain ⟨ax1, ax2⟩ := hs
    have gk1 := fun (x : Int) (g : G1 (.inr (x))) (q : inR x) => gk0 x (hout1 _ g) q
    show Z Y (m_Links_groups_L4b o h x1 x2) G1 h 4 [(0, vR ad o), (1, vI x1), (2, vI x2)] []
    unfold m_Links_groups_L4b
    refine z_s I (s_iload_n (pc' := 5) 2 rfl D_Links_groups_0.1.2.1.1 rfl rfl) ?_
    refine z_s I (s_sipush (pc' := 8) D_Links_groups_0.1.2.1.2 rfl rfl) ?_
    refine z_icmp_ge (tgt := 28) (pc' := 11) I ax2 (inR_c (x := 256) rfl) D_Links_groups_0.1.2.2.1 rfl rfl (fun c1 => ?_) (fun c1 => ?_)
    · refine z_s I (s_iload_n (pc' := 29) 1 rfl D_Links_groups_0.2.2.2.1 rfl rfl) ?_
      exact z_ret (w := some (vI x1)) I (fun g => gk1 _ g ax1) ⟨_, rfl⟩ D_Links_groups_0.2.2.2.2 rfl
    · refine z_s I (s_aload_n (pc' := 12) 0 rfl D_Links_groups_0.1.2.2.2 rfl rfl) ?_
      refine z_s I (s_iload_n (pc' := 13) 2 rfl D_Links_groups_0.2.1.1.1 rfl rfl) ?_
      refine z_b1 (fun r4 q3 => ?_)
      refine z_callV (pc' := 16) I mv_Links_isGroup ml_Links_27 (fun ad => [vI x2]) ⟨Nat.le_of_ble_eq_true rfl, Nat.le_of_ble_eq_true rfl⟩ ao (fun hh => c_Links_isGroup hw ao ax2 hh q3) rfl rfl (Nat.le_of_ble_eq_true rfl) D_Links_groups_0.2.1.1.2 rfl (fun f2 => ?_)
      refine z_if_eq (tgt := 22) (pc' := 19) I (b01.R f2) D_Links_groups_0.2.1.2.1 rfl rfl (fun c5 => ?_) (fun c5 => ?_)
      · refine z_s I (s_iinc (pc' := 25) (lv' := [(2, vI (w32 (x2 + 1))), (0, vR ad o), (1, vI x1)]) (n := 2) rfl D_Links_groups_0.2.2.1.1 (by decide) rfl rfl) ?_
        refine z_s I (s_goto (tgt := 4) D_Links_groups_0.2.2.1.2 rfl) ?_
        refine z_s I (s_lv (lv' := [(0, vR ad o), (1, vI x1), (2, vI (w32 (x2 + 1)))]) [1, 2, 0] rfl) ?_
        exact z_end (fun g => hin1_1 _ g ⟨ax1, (inR_w32 _)⟩)
      · refine z_s I (s_iinc (pc' := 22) (lv' := [(1, vI (w32 (x1 + 1))), (0, vR ad o), (2, vI x2)]) (n := 1) rfl D_Links_groups_0.2.1.2.2 (by decide) rfl rfl) ?_
        refine z_s I (s_iinc (pc' := 25) (lv' := [(2, vI (w32 (x2 + 1))), (1, vI (w32 (x1 + 1))), (0, vR ad o)]) (n := 2) rfl D_Links_groups_0.2.2.1.1 (by decide) rfl rfl) ?_
        refine z_s I (s_goto (tgt := 4) D_Links_groups_0.2.2.1.2 rfl) ?_
        refine z_s I (s_lv (lv' := [(0, vR ad o), (1, vI (w32 (x1 + 1))), (2, vI (w32 (x2 + 1)))]) [2, 1, 0] rfl) ?_
        exact z_end (fun g => hin1_1 _ g ⟨(inR_w32 _), (inR_w32 _)⟩)
  have main : Z Y (m_Links_groups o h) G0 h 0 [(0, vR ad o)] [] := by
    unfold m_Links_groups
    refine z_s I (s_iconst (pc' := 1) D_Links_groups_0.1.1.1.1 rfl) ?_
    refine z_s I (s_istore_n (pc' := 2) (lv' := [(1, vI 0), (0, vR ad o)]) D_Links_groups_0.1.1.1.2 rfl (by decide) rfl rfl) ?_
    refine z_s I (s_iconst (pc' := 3) D_Links_groups_0.1.1.2.1 rfl) ?_
    refine z_s I (s_istore_n (pc' := 4) (lv' := [(2, vI 1), (1, vI 0), (0, vR ad o)]) D_Links_groups_0.1.1.2.2 rfl (by decide) rfl rfl) ?_
    refine z_s I (s_lv (lv' := [(0, vR ad o), (1, vI 0), (2, vI 1)]) [2, 1, 0] rfl) ?_
    exact L4 _ ⟨(b01.R bz0), (b01.R bz1)⟩
  exact main _ hF (by rw [hG0])
set_option maxHeartbeats 4000000 in
set_option maxRecDepth 20000 in
theorem c_Links_greatest {l : Launch} {τ : TP} {o : Int} {h : HP} {r : Int} (hw : wf τ) (ao : ok τ (4, 2) o) (hh : hr τ h) (hF : m_Links_greatest o h = some r) : Ctr l y_Links_greatest k_Links_greatest 3 (Option.some FieldType.int) 2 43 τ (fun ad => [vR ad o]) h (some (vI r)) h (inR r) := by
  refine ctr_of (by decide) hw hh (fun ad => Nat.le_of_ble_eq_true rfl) (fun ad K Y I hK => ?_)
  obtain ⟨G0, hG0⟩ : ∃ G : Int → Prop, G = fun x => x = r := ⟨_, rfl⟩
  have gk0 : ∀ (x : Int), G0 x → inR x → K (some (vI x)) h := fun x g q => by
    rw [hG0] at g
    cases g
    exact hK q
  have L4 : ∀ (s : Int × Int), (inR (s.1) ∧ inR (s.2)) → Z Y (m_Links_greatest_L4 o h s) G0 h 4 [(0, vR ad o), (1, vI (s.1)), (2, vI (s.2))] [] := by
    intro s hs
    refine z_loop (G := G0) (hO := fun s : Int × Int => h) (lO := fun s : Int × Int => [(0, vR ad o), (1, vI (s.1)), (2, vI (s.2))]) (Φ := fun s : Int × Int => inR (s.1) ∧ inR (s.2)) (fun G1 hin1_1 hout1 s hs => ?_) FUEL s hs
    obtain ⟨x1, x2⟩ := s
    obtain ⟨ax1, ax2⟩ := hs
    have gk1 := fun (x : Int) (g : G1 (.inr (x))) (q : inR x) => gk0 x (hout1 _ g) q
    show Z Y (m_Links_greatest_L4b o h x1 x2) G1 h 4 [(0, vR ad o), (1, vI x1), (2, vI x2)] []
    unfold m_Links_greatest_L4b
    refine z_s I (s_iload_n (pc' := 5) 2 rfl D_Links_greatest_0.1.2.1.1 rfl rfl) ?_
    refine z_s I (s_sipush (pc' := 8) D_Links_greatest_0.1.2.1.2 rfl rfl) ?_
    refine z_icmp_ge (tgt := 34) (pc' := 11) I ax2 (inR_c (x := 256) rfl) D_Links_greatest_0.1.2.2.1 rfl rfl (fun c1 => ?_) (fun c1 => ?_)
    · refine z_s I (s_iload_n (pc' := 35) 1 rfl D_Links_greatest_1.2.1 rfl rfl) ?_
      exact z_ret (w := some (vI x1)) I (fun g => gk1 _ g ax1) ⟨_, rfl⟩ D_Links_greatest_1.2.2 rfl
    · refine z_s I (s_aload_n (pc' := 12) 0 rfl D_Links_greatest_0.1.2.2.2 rfl rfl) ?_
      refine z_s I (s_iload_n (pc' := 13) 2 rfl D_Links_greatest_0.2.1.1.1 rfl rfl) ?_
      refine z_b1 (fun r4 q3 => ?_)
      refine z_callV (pc' := 16) I mv_Links_isGroup ml_Links_27 (fun ad => [vI x2]) ⟨Nat.le_of_ble_eq_true rfl, Nat.le_of_ble_eq_true rfl⟩ ao (fun hh => c_Links_isGroup hw ao ax2 hh q3) rfl rfl (Nat.le_of_ble_eq_true rfl) D_Links_greatest_0.2.1.1.2 rfl (fun f2 => ?_)
      refine z_if_eq (tgt := 28) (pc' := 19) I (b01.R f2) D_Links_greatest_0.2.1.2.1 rfl rfl (fun c5 => ?_) (fun c5 => ?_)
      · refine z_s I (s_iinc (pc' := 31) (lv' := [(2, vI (w32 (x2 + 1))), (0, vR ad o), (1, vI x1)]) (n := 2) rfl D_Links_greatest_1.1.1 (by decide) rfl rfl) ?_
        refine z_s I (s_goto (tgt := 4) D_Links_greatest_1.1.2 rfl) ?_
        refine z_s I (s_lv (lv' := [(0, vR ad o), (1, vI x1), (2, vI (w32 (x2 + 1)))]) [1, 2, 0] rfl) ?_
        exact z_end (fun g => hin1_1 _ g ⟨ax1, (inR_w32 _)⟩)
      · refine z_s I (s_iload_n (pc' := 20) 1 rfl D_Links_greatest_0.2.1.2.2 rfl rfl) ?_
        refine z_s I (s_iload_n (pc' := 21) 2 rfl D_Links_greatest_0.2.2.1.1 rfl rfl) ?_
        refine z_b1 (fun r8 q7 => ?_)
        refine z_callS (pc' := 24) I mv_Jint_bitCount ml_Links_31 (fun ad => [vI x2]) ⟨Nat.le_of_ble_eq_true rfl, Nat.le_of_ble_eq_true rfl⟩ (fun hh => c_Jint_bitCount hw ax2 hh q7) rfl rfl (Nat.le_of_ble_eq_true rfl) D_Links_greatest_0.2.2.1.2 rfl (fun f6 => ?_)
        refine z_mmax (pc' := 27) I ax1 f6 ml_Links_37 (Nat.le_of_ble_eq_true rfl) (Nat.le_of_ble_eq_true rfl) D_Links_greatest_0.2.2.2.1 rfl (fun f9 => ?_)
        refine z_bI f9 (fun v10 e11 f12 => ?_)
        refine z_s I (s_istore_n (pc' := 28) (lv' := [(1, vI v10), (0, vR ad o), (2, vI x2)]) D_Links_greatest_0.2.2.2.2 rfl (by decide) rfl rfl) ?_
        refine z_s I (s_iinc (pc' := 31) (lv' := [(2, vI (w32 (x2 + 1))), (1, vI v10), (0, vR ad o)]) (n := 2) rfl D_Links_greatest_1.1.1 (by decide) rfl rfl) ?_
        refine z_s I (s_goto (tgt := 4) D_Links_greatest_1.1.2 rfl) ?_
        refine z_s I (s_lv (lv' := [(0, vR ad o), (1, vI v10), (2, vI (w32 (x2 + 1)))]) [2, 1, 0] rfl) ?_
        exact z_end (fun g => hin1_1 _ g ⟨f12, (inR_w32 _)⟩)
  have main : Z Y (m_Links_greatest o h) G0 h 0 [(0, vR ad o)] [] := by
    unfold m_Links_greatest
    refine z_s I (s_iconst (pc' := 1) D_Links_greatest_0.1.1.1.1 rfl) ?_
    refine z_s I (s_istore_n (pc' := 2) (lv' := [(1, vI 0), (0, vR ad o)]) D_Links_greatest_0.1.1.1.2 rfl (by decide) rfl rfl) ?_
    refine z_s I (s_iconst (pc' := 3) D_Links_greatest_0.1.1.2.1 rfl) ?_
    refine z_s I (s_istore_n (pc' := 4) (lv' := [(2, vI 1), (1, vI 0), (0, vR ad o)]) D_Links_greatest_0.1.1.2.2 rfl (by decide) rfl rfl) ?_
    refine z_s I (s_lv (lv' := [(0, vR ad o), (1, vI 0), (2, vI 1)]) [2, 1, 0] rfl) ?_
    exact L4 _ ⟨(b01.R bz0), (b01.R bz1)⟩
  exact main _ hF (by rw [hG0])
set_option maxHeartbeats 4000000 in
set_option maxRecDepth 20000 in
theorem c_Cb_pairs {l : Launch} {τ : TP} {o : Int} {x1 : Int} {x2 : Int} {h : HP} {r : Int} {h' : HP} (hw : wf τ) (ao : ok τ (4, 9) o) (ax1 : inR x1) (ax2 : inR x2) (hh : hr τ h) (hF : m_Cb_pairs o x1 x2 h = some (r, h')) : Ctr l y_Cb_pairs k_Cb_pairs 3 (Option.some FieldType.int) 6 158 τ (fun ad => [vR ad o, vI x1, vI x2]) h (some (vI r)) h' (inR r) := by
  refine ctr_of (by decide) hw hh (fun ad => Nat.le_of_ble_eq_true rfl) (fun ad K Y I hK => ?_)
  obtain ⟨G0, hG0⟩ : ∃ G : Int × HP → Prop, G = fun x => x = (r, h') := ⟨_, rfl⟩
  have gk0 : ∀ (x : Int) (y : HP), G0 (x, y) → inR x → K (some (vI x)) y := fun x y g q => by
    rw [hG0] at g
    cases g
    exact hK q
  have main : Z Y (m_Cb_pairs o x1 x2 h) G0 h 0 [(0, vR ad o), (1, vI x1), (2, vI x2)] [] := by
    unfold m_Cb_pairs
    refine z_s I (s_iload_n (pc' := 1) 1 rfl D_Cb_pairs_0.1.1.1.1 rfl rfl) ?_
    refine z_tin (tgt := 36) I ax1 D_Cb_pairs_0.1.1.1.2 0 ⟨by decide, by decide⟩ rfl rfl (fun c1 => ?_) (fun c1 => ?_)
    · refine z_s I (s_aload_n (pc' := 37) 0 rfl D_Cb_pairs_0.1.1.2.1 rfl rfl) ?_
      refine z_getR (pc' := 40) (eI := o + 1) I g_Cb_12 ao rfl (by omega) D_Cb_pairs_0.1.1.2.2 rfl ?_
      have k2 : ok τ (4, 1) (o + 1) := r_Cb_now hw ao (by omega)
      refine z_b1 (fun r5 q4 => ?_)
      refine z_callV (pc' := 43) I mv_Exam_pairsInReach ml_Cb_240 (fun ad => []) ⟨Nat.le_of_ble_eq_true rfl, Nat.le_of_ble_eq_true rfl⟩ k2 (fun hh => c_Exam_pairsInReach hw k2 hh q4) rfl rfl (Nat.le_of_ble_eq_true rfl) D_Cb_pairs_0.1.2.1.1 rfl (fun f3 => ?_)
      exact z_ret (w := some (vI r5)) I (fun g => gk0 _ _ g f3) ⟨_, rfl⟩ D_Cb_pairs_0.1.2.1.2 rfl
    · skip
      refine z_tin (tgt := 44) I ax1 D_Cb_pairs_0.1.1.1.2 1 ⟨by decide, by decide⟩ rfl rfl (fun c6 => ?_) (fun c6 => ?_)
      · refine z_s I (s_aload_n (pc' := 45) 0 rfl D_Cb_pairs_0.1.2.2.1 rfl rfl) ?_
        refine z_b1 (fun h9 q8 => ?_)
        refine z_callV (pc' := 48) I mv_Cb_rankNow ml_Cb_243 (fun ad => []) ⟨Nat.le_of_ble_eq_true rfl, Nat.le_of_ble_eq_true rfl⟩ ao (fun hh => c_Cb_rankNow hw ao hh q8) rfl rfl (Nat.le_of_ble_eq_true rfl) D_Cb_pairs_0.1.2.2.2 rfl (fun f7 => ?_)
        refine z_s I (s_aload_n (pc' := 49) 0 rfl D_Cb_pairs_0.2.1.1.1 rfl rfl) ?_
        refine z_getR (pc' := 52) (eI := o + 99) I g_Cb_61 ao rfl (by omega) D_Cb_pairs_0.2.1.1.2 rfl ?_
        have k10 : ok τ (4, 4) (o + 99) := r_Cb_ranking hw ao (by omega)
        refine z_getI (pc' := 55) (jI := 1) I g_Cb_246 k10 rfl rfl D_Cb_pairs_0.2.1.2.1 rfl (fun f11 => ?_)
        exact z_ret (w := some (vI (h9 (o + 99) 1))) I (fun g => gk0 _ _ g f11) ⟨_, rfl⟩ D_Cb_pairs_0.2.1.2.2 rfl
      · skip
        refine z_tin (tgt := 56) I ax1 D_Cb_pairs_0.1.1.1.2 2 ⟨by decide, by decide⟩ rfl rfl (fun c12 => ?_) (fun c12 => ?_)
        · refine z_s I (s_iload_n (pc' := 57) 2 rfl D_Cb_pairs_0.2.2.1.1 rfl rfl) ?_
          refine z_if_lt (tgt := 66) (pc' := 60) I ax2 D_Cb_pairs_0.2.2.1.2 rfl rfl (fun c13 => ?_) (fun c13 => ?_)
          · refine z_s I (s_bipush (pc' := 68) D_Cb_pairs_1.1.1.1.2 rfl rfl) ?_
            refine z_s I (s_goto (tgt := 79) D_Cb_pairs_1.1.1.2.1 rfl) ?_
            exact z_ret (w := some (vI (-2))) I (fun g => gk0 _ _ g (inR_c (x := (-2)) rfl)) ⟨_, rfl⟩ D_Cb_pairs_1.1.2.2.2 rfl
          · refine z_s I (s_iload_n (pc' := 61) 2 rfl D_Cb_pairs_0.2.2.2.1 rfl rfl) ?_
            refine z_s I (s_bipush (pc' := 63) D_Cb_pairs_0.2.2.2.2 rfl rfl) ?_
            refine z_icmp_lt (tgt := 71) (pc' := 66) I ax2 (inR_c (x := 10) rfl) D_Cb_pairs_1.1.1.1.1 rfl rfl (fun c14 => ?_) (fun c14 => ?_)
            · refine z_s I (s_aload_n (pc' := 72) 0 rfl D_Cb_pairs_1.1.1.2.2 rfl rfl) ?_
              refine z_getR (pc' := 75) (eI := o + 1) I g_Cb_12 ao rfl (by omega) D_Cb_pairs_1.1.2.1.1 rfl ?_
              have k15 : ok τ (4, 1) (o + 1) := r_Cb_now hw ao (by omega)
              refine z_s I (s_iload_n (pc' := 76) 2 rfl D_Cb_pairs_1.1.2.1.2 rfl rfl) ?_
              refine z_b1 (fun r18 q17 => ?_)
              refine z_callV (pc' := 79) I mv_Exam_nearOnes ml_Cb_249 (fun ad => [vI x2]) ⟨Nat.le_of_ble_eq_true rfl, Nat.le_of_ble_eq_true rfl⟩ k15 (fun hh => c_Exam_nearOnes hw k15 ax2 hh q17) rfl rfl (Nat.le_of_ble_eq_true rfl) D_Cb_pairs_1.1.2.2.1 rfl (fun f16 => ?_)
              exact z_ret (w := some (vI r18)) I (fun g => gk0 _ _ g f16) ⟨_, rfl⟩ D_Cb_pairs_1.1.2.2.2 rfl
            · refine z_s I (s_bipush (pc' := 68) D_Cb_pairs_1.1.1.1.2 rfl rfl) ?_
              refine z_s I (s_goto (tgt := 79) D_Cb_pairs_1.1.1.2.1 rfl) ?_
              exact z_ret (w := some (vI (-2))) I (fun g => gk0 _ _ g (inR_c (x := (-2)) rfl)) ⟨_, rfl⟩ D_Cb_pairs_1.1.2.2.2 rfl
        · skip
          refine z_tin (tgt := 80) I ax1 D_Cb_pairs_0.1.1.1.2 3 ⟨by decide, by decide⟩ rfl rfl (fun c19 => ?_) (fun c19 => ?_)
          · refine z_s I (s_aload_n (pc' := 81) 0 rfl D_Cb_pairs_1.2.1.1.1 rfl rfl) ?_
            refine z_b1 (fun h22 q21 => ?_)
            refine z_callV (pc' := 84) I mv_Cb_linkNow ml_Cb_252 (fun ad => []) ⟨Nat.le_of_ble_eq_true rfl, Nat.le_of_ble_eq_true rfl⟩ ao (fun hh => c_Cb_linkNow hw ao hh q21) rfl rfl (Nat.le_of_ble_eq_true rfl) D_Cb_pairs_1.2.1.1.2 rfl (fun f20 => ?_)
            refine z_s I (s_aload_n (pc' := 85) 0 rfl D_Cb_pairs_1.2.1.2.1 rfl rfl) ?_
            refine z_getR (pc' := 88) (eI := o + 106) I g_Cb_68 ao rfl (by omega) D_Cb_pairs_1.2.1.2.2 rfl ?_
            have k23 : ok τ (4, 2) (o + 106) := r_Cb_links hw ao (by omega)
            refine z_b1 (fun r26 q25 => ?_)
            refine z_callV (pc' := 91) I mv_Links_groups ml_Cb_255 (fun ad => []) ⟨Nat.le_of_ble_eq_true rfl, Nat.le_of_ble_eq_true rfl⟩ k23 (fun hh => c_Links_groups hw k23 hh q25) rfl rfl (Nat.le_of_ble_eq_true rfl) D_Cb_pairs_1.2.2.1.1 rfl (fun f24 => ?_)
            exact z_ret (w := some (vI r26)) I (fun g => gk0 _ _ g f24) ⟨_, rfl⟩ D_Cb_pairs_1.2.2.1.2 rfl
          · skip
            refine z_tin (tgt := 92) I ax1 D_Cb_pairs_0.1.1.1.2 4 ⟨by decide, by decide⟩ rfl rfl (fun c27 => ?_) (fun c27 => ?_)
            · refine z_s I (s_aload_n (pc' := 93) 0 rfl D_Cb_pairs_1.2.2.2.1 rfl rfl) ?_
              refine z_b1 (fun h30 q29 => ?_)
              refine z_callV (pc' := 96) I mv_Cb_linkNow ml_Cb_252 (fun ad => []) ⟨Nat.le_of_ble_eq_true rfl, Nat.le_of_ble_eq_true rfl⟩ ao (fun hh => c_Cb_linkNow hw ao hh q29) rfl rfl (Nat.le_of_ble_eq_true rfl) D_Cb_pairs_1.2.2.2.2 rfl (fun f28 => ?_)
              refine z_s I (s_aload_n (pc' := 97) 0 rfl D_Cb_pairs_2.1.1 rfl rfl) ?_
              refine z_getR (pc' := 100) (eI := o + 106) I g_Cb_68 ao rfl (by omega) D_Cb_pairs_2.1.2.1 rfl ?_
              have k31 : ok τ (4, 2) (o + 106) := r_Cb_links hw ao (by omega)
              refine z_b1 (fun r34 q33 => ?_)
              refine z_callV (pc' := 103) I mv_Links_greatest ml_Cb_258 (fun ad => []) ⟨Nat.le_of_ble_eq_true rfl, Nat.le_of_ble_eq_true rfl⟩ k31 (fun hh => c_Links_greatest hw k31 hh q33) rfl rfl (Nat.le_of_ble_eq_true rfl) D_Cb_pairs_2.1.2.2 rfl (fun f32 => ?_)
              exact z_ret (w := some (vI r34)) I (fun g => gk0 _ _ g f32) ⟨_, rfl⟩ D_Cb_pairs_2.2.1 rfl
            · skip
              refine z_tout (tgt := 104) I ax1 D_Cb_pairs_0.1.1.1.2 (by omega) rfl ?_
              refine z_s I (s_iconst (pc' := 105) D_Cb_pairs_2.2.2.1 rfl) ?_
              exact z_ret (w := some (vI (-1))) I (fun g => gk0 _ _ g (inR_c (x := (-1)) rfl)) ⟨_, rfl⟩ D_Cb_pairs_2.2.2.2 rfl
  exact main _ hF (by rw [hG0])
set_option maxHeartbeats 4000000 in
set_option maxRecDepth 20000 in
theorem c_Ranking_has {l : Launch} {τ : TP} {o : Int} {x1 : Int} {h : HP} {r : Int} (hw : wf τ) (ao : ok τ (4, 4) o) (ax1 : inR x1) (hh : hr τ h) (hF : m_Ranking_has o x1 h = some r) : Ctr l y_Ranking_has k_Ranking_has 2 (Option.some FieldType.boolean) 0 0 τ (fun ad => [vR ad o, vI x1]) h (some (vI r)) h (b01 r) := by
  refine ctr_of (by decide) hw hh (fun ad => Nat.le_of_ble_eq_true rfl) (fun ad K Y I hK => ?_)
  obtain ⟨G0, hG0⟩ : ∃ G : Int → Prop, G = fun x => x = r := ⟨_, rfl⟩
  have gk0 : ∀ (x : Int), G0 x → b01 x → K (some (vI x)) h := fun x g q => by
    rw [hG0] at g
    cases g
    exact hK q
  have main : Z Y (m_Ranking_has o x1 h) G0 h 0 [(0, vR ad o), (1, vI x1)] [] := by
    unfold m_Ranking_has
    refine z_s I (s_iload_n (pc' := 1) 1 rfl D_Ranking_has_0.1.1.1 rfl rfl) ?_
    refine z_if_lt (tgt := 16) (pc' := 4) I ax1 D_Ranking_has_0.1.1.2 rfl rfl (fun c1 => ?_) (fun c1 => ?_)
    · refine z_s I (s_iconst (pc' := 17) D_Ranking_has_0.2.2.2.1 rfl) ?_
      exact z_ret (w := some (vI 0)) I (fun g => gk0 _ g bz0) ⟨_, bz0, rfl⟩ D_Ranking_has_0.2.2.2.2 rfl
    · refine z_s I (s_iload_n (pc' := 5) 1 rfl D_Ranking_has_0.1.2.1 rfl rfl) ?_
      refine z_s I (s_aload_n (pc' := 6) 0 rfl D_Ranking_has_0.1.2.2.1 rfl rfl) ?_
      refine z_getI (pc' := 9) (jI := 0) I g_Ranking_9 ao rfl rfl D_Ranking_has_0.1.2.2.2 rfl (fun f2 => ?_)
      refine z_icmp_ge (tgt := 16) (pc' := 12) I ax1 f2 D_Ranking_has_0.2.1.1 rfl rfl (fun c3 => ?_) (fun c3 => ?_)
      · refine z_s I (s_iconst (pc' := 17) D_Ranking_has_0.2.2.2.1 rfl) ?_
        exact z_ret (w := some (vI 0)) I (fun g => gk0 _ g bz0) ⟨_, bz0, rfl⟩ D_Ranking_has_0.2.2.2.2 rfl
      · refine z_s I (s_iconst (pc' := 13) D_Ranking_has_0.2.1.2 rfl) ?_
        refine z_s I (s_goto (tgt := 17) D_Ranking_has_0.2.2.1 rfl) ?_
        exact z_ret (w := some (vI 1)) I (fun g => gk0 _ g bz1) ⟨_, bz1, rfl⟩ D_Ranking_has_0.2.2.2.2 rfl
  exact main _ hF (by rw [hG0])
set_option maxHeartbeats 4000000 in
set_option maxRecDepth 20000 in
theorem c_Cb_pair {l : Launch} {τ : TP} {o : Int} {x1 : Int} {x2 : Int} {h : HP} {r : Int} {h' : HP} (hw : wf τ) (ao : ok τ (4, 9) o) (ax1 : inR x1) (ax2 : inR x2) (hh : hr τ h) (hF : m_Cb_pair o x1 x2 h = some (r, h')) : Ctr l y_Cb_pair k_Cb_pair 3 (Option.some FieldType.int) 6 158 τ (fun ad => [vR ad o, vI x1, vI x2]) h (some (vI r)) h' (inR r) := by
  refine ctr_of (by decide) hw hh (fun ad => Nat.le_of_ble_eq_true rfl) (fun ad K Y I hK => ?_)
  obtain ⟨G0, hG0⟩ : ∃ G : Int × HP → Prop, G = fun x => x = (r, h') := ⟨_, rfl⟩
  have gk0 : ∀ (x : Int) (y : HP), G0 (x, y) → inR x → K (some (vI x)) y := fun x y g q => by
    rw [hG0] at g
    cases g
    exact hK q
  have main : Z Y (m_Cb_pair o x1 x2 h) G0 h 0 [(0, vR ad o), (1, vI x1), (2, vI x2)] [] := by
    unfold m_Cb_pair
    refine z_s I (s_iload_n (pc' := 1) 2 rfl D_Cb_pair_0.1.1.1.1 rfl rfl) ?_
    refine z_if_lt (tgt := 9) (pc' := 4) I ax2 D_Cb_pair_0.1.1.1.2 rfl rfl (fun c1 => ?_) (fun c1 => ?_)
    · refine z_s I (s_iconst (pc' := 10) D_Cb_pair_0.1.2.1.2 rfl) ?_
      exact z_ret (w := some (vI (-1))) I (fun g => gk0 _ _ g (inR_c (x := (-1)) rfl)) ⟨_, rfl⟩ D_Cb_pair_0.1.2.2.1 rfl
    · refine z_s I (s_iload_n (pc' := 5) 2 rfl D_Cb_pair_0.1.1.2.1 rfl rfl) ?_
      refine z_s I (s_iconst (pc' := 6) D_Cb_pair_0.1.1.2.2 rfl) ?_
      refine z_icmp_le (tgt := 11) (pc' := 9) I ax2 (inR_c (x := 2) rfl) D_Cb_pair_0.1.2.1.1 rfl rfl (fun c2 => ?_) (fun c2 => ?_)
      · refine z_s I (s_aload_n (pc' := 12) 0 rfl D_Cb_pair_0.1.2.2.2 rfl rfl) ?_
        refine z_b1 (fun h5 q4 => ?_)
        refine z_callV (pc' := 15) I mv_Cb_rankNow ml_Cb_243 (fun ad => []) ⟨Nat.le_of_ble_eq_true rfl, Nat.le_of_ble_eq_true rfl⟩ ao (fun hh => c_Cb_rankNow hw ao hh q4) rfl rfl (Nat.le_of_ble_eq_true rfl) D_Cb_pair_0.2.1.1.1 rfl (fun f3 => ?_)
        refine z_s I (s_aload_n (pc' := 16) 0 rfl D_Cb_pair_0.2.1.1.2 rfl rfl) ?_
        refine z_getR (pc' := 19) (eI := o + 99) I g_Cb_61 ao rfl (by omega) D_Cb_pair_0.2.1.2.1 rfl ?_
        have k6 : ok τ (4, 4) (o + 99) := r_Cb_ranking hw ao (by omega)
        refine z_s I (s_iload_n (pc' := 20) 1 rfl D_Cb_pair_0.2.1.2.2 rfl rfl) ?_
        refine z_b1 (fun r9 q8 => ?_)
        refine z_callV (pc' := 23) I mv_Ranking_has ml_Cb_261 (fun ad => [vI x1]) ⟨Nat.le_of_ble_eq_true rfl, Nat.le_of_ble_eq_true rfl⟩ k6 (fun hh => c_Ranking_has hw k6 ax1 hh q8) rfl rfl (Nat.le_of_ble_eq_true rfl) D_Cb_pair_0.2.2.1.1 rfl (fun f7 => ?_)
        refine z_if_ne (tgt := 29) (pc' := 26) I (b01.R f7) D_Cb_pair_0.2.2.1.2 rfl rfl (fun c10 => ?_) (fun c10 => ?_)
        · refine z_s I (s_iload_n (pc' := 30) 2 rfl D_Cb_pair_1.1.1.1.1 rfl rfl) ?_
          refine z_s I (s_iconst (pc' := 31) D_Cb_pair_1.1.1.1.2 rfl) ?_
          refine z_icmp_ne (tgt := 51) (pc' := 34) I ax2 (inR_c (x := 2) rfl) D_Cb_pair_1.1.1.2.1 rfl rfl (fun c11 => ?_) (fun c11 => ?_)
          · refine z_s I (s_iload_n (pc' := 52) 2 rfl D_Cb_pair_1.2.2.1.1 rfl rfl) ?_
            refine z_if_ne (tgt := 67) (pc' := 55) I ax2 D_Cb_pair_1.2.2.1.2 rfl rfl (fun c12 => ?_) (fun c12 => ?_)
            · refine z_s I (s_aload_n (pc' := 68) 0 rfl D_Cb_pair_2.1.2.2.2 rfl rfl) ?_
              refine z_getR (pc' := 71) (eI := o + 99) I g_Cb_61 ao rfl (by omega) D_Cb_pair_2.2.1.1 rfl ?_
              have k13 : ok τ (4, 4) (o + 99) := r_Cb_ranking hw ao (by omega)
              refine z_getR (pc' := 74) (eI := o + 101) I g_Cb_267 k13 rfl (by omega) D_Cb_pair_2.2.1.2 rfl ?_
              have k14 : ok τ (0, 28) (o + 101) := r_Ranking_upper hw k13 (by omega)
              refine z_s I (s_iload_n (pc' := 75) 1 rfl D_Cb_pair_2.2.2.1 rfl rfl) ?_
              refine z_iald (pc' := 76) (nI := 28) I k14 ax1 rfl D_Cb_pair_2.2.2.2.1 rfl (fun c15 f16 => ?_)
              exact z_ret (w := some (vI (h5 (o + 101) x1))) I (fun g => gk0 _ _ g f16) ⟨_, rfl⟩ D_Cb_pair_2.2.2.2.2 rfl
            · refine z_s I (s_aload_n (pc' := 56) 0 rfl D_Cb_pair_1.2.2.2.1 rfl rfl) ?_
              refine z_getR (pc' := 59) (eI := o + 99) I g_Cb_61 ao rfl (by omega) D_Cb_pair_1.2.2.2.2 rfl ?_
              have k17 : ok τ (4, 4) (o + 99) := r_Cb_ranking hw ao (by omega)
              refine z_getR (pc' := 62) (eI := o + 100) I g_Cb_264 k17 rfl (by omega) D_Cb_pair_2.1.1.1 rfl ?_
              have k18 : ok τ (0, 28) (o + 100) := r_Ranking_lower hw k17 (by omega)
              refine z_s I (s_iload_n (pc' := 63) 1 rfl D_Cb_pair_2.1.1.2 rfl rfl) ?_
              refine z_iald (pc' := 64) (nI := 28) I k18 ax1 rfl D_Cb_pair_2.1.2.1 rfl (fun c19 f20 => ?_)
              refine z_s I (s_goto (tgt := 76) D_Cb_pair_2.1.2.2.1 rfl) ?_
              exact z_ret (w := some (vI (h5 (o + 100) x1))) I (fun g => gk0 _ _ g f20) ⟨_, rfl⟩ D_Cb_pair_2.2.2.2.2 rfl
          · refine z_s I (s_iload_n (pc' := 35) 1 rfl D_Cb_pair_1.1.1.2.2 rfl rfl) ?_
            refine z_s I (s_aload_n (pc' := 36) 0 rfl D_Cb_pair_1.1.2.1.1 rfl rfl) ?_
            refine z_getR (pc' := 39) (eI := o + 99) I g_Cb_61 ao rfl (by omega) D_Cb_pair_1.1.2.1.2 rfl ?_
            have k21 : ok τ (4, 4) (o + 99) := r_Cb_ranking hw ao (by omega)
            refine z_getI (pc' := 42) (jI := 1) I g_Cb_246 k21 rfl rfl D_Cb_pair_1.1.2.2.1 rfl (fun f22 => ?_)
            refine z_icmp_ge (tgt := 49) (pc' := 45) I ax1 f22 D_Cb_pair_1.1.2.2.2 rfl rfl (fun c23 => ?_) (fun c23 => ?_)
            · refine z_s I (s_iconst (pc' := 50) D_Cb_pair_1.2.1.2.1 rfl) ?_
              exact z_ret (w := some (vI 0)) I (fun g => gk0 _ _ g (b01.R bz0)) ⟨_, rfl⟩ D_Cb_pair_1.2.1.2.2 rfl
            · refine z_s I (s_iconst (pc' := 46) D_Cb_pair_1.2.1.1.1 rfl) ?_
              refine z_s I (s_goto (tgt := 50) D_Cb_pair_1.2.1.1.2 rfl) ?_
              exact z_ret (w := some (vI 1)) I (fun g => gk0 _ _ g (b01.R bz1)) ⟨_, rfl⟩ D_Cb_pair_1.2.1.2.2 rfl
        · refine z_s I (s_bipush (pc' := 28) D_Cb_pair_0.2.2.2.1 rfl rfl) ?_
          exact z_ret (w := some (vI (-2))) I (fun g => gk0 _ _ g (inR_c (x := (-2)) rfl)) ⟨_, rfl⟩ D_Cb_pair_0.2.2.2.2 rfl
      · refine z_s I (s_iconst (pc' := 10) D_Cb_pair_0.1.2.1.2 rfl) ?_
        exact z_ret (w := some (vI (-1))) I (fun g => gk0 _ _ g (inR_c (x := (-1)) rfl)) ⟨_, rfl⟩ D_Cb_pair_0.1.2.2.1 rfl
  exact main _ hF (by rw [hG0])
set_option maxHeartbeats 4000000 in
set_option maxRecDepth 20000 in
theorem c_Cb_pairOdds {l : Launch} {τ : TP} {o : Int} {x1 : Int} {x2 : Int} {h : HP} {r : Int} {h' : HP} (hw : wf τ) (ao : ok τ (4, 9) o) (ax1 : inR x1) (ax2 : inR x2) (hh : hr τ h) (hF : m_Cb_pairOdds o x1 x2 h = some (r, h')) : Ctr l y_Cb_pairOdds k_Cb_pairOdds 3 (Option.some FieldType.long) 6 158 τ (fun ad => [vR ad o, vI x1, vI x2]) h (some (vL r)) h' (inL r) := by
  refine ctr_of (by decide) hw hh (fun ad => Nat.le_of_ble_eq_true rfl) (fun ad K Y I hK => ?_)
  obtain ⟨G0, hG0⟩ : ∃ G : Int × HP → Prop, G = fun x => x = (r, h') := ⟨_, rfl⟩
  have gk0 : ∀ (x : Int) (y : HP), G0 (x, y) → inL x → K (some (vL x)) y := fun x y g q => by
    rw [hG0] at g
    cases g
    exact hK q
  have main : Z Y (m_Cb_pairOdds o x1 x2 h) G0 h 0 [(0, vR ad o), (1, vI x1), (2, vI x2)] [] := by
    unfold m_Cb_pairOdds
    refine z_s I (s_iload_n (pc' := 1) 2 rfl D_Cb_pairOdds_0.1.1.1.1 rfl rfl) ?_
    refine z_b1 (fun r3 q2 => ?_)
    refine z_callS (pc' := 4) I mv_Cb_isPart ml_Cb_212 (fun ad => [vI x2]) ⟨Nat.le_of_ble_eq_true rfl, Nat.le_of_ble_eq_true rfl⟩ (fun hh => c_Cb_isPart hw ax2 hh q2) rfl rfl (Nat.le_of_ble_eq_true rfl) D_Cb_pairOdds_0.1.1.1.2 rfl (fun f1 => ?_)
    refine z_if_ne (tgt := 11) (pc' := 7) I (b01.R f1) D_Cb_pairOdds_0.1.1.2.1 rfl rfl (fun c4 => ?_) (fun c4 => ?_)
    · refine z_s I (s_aload_n (pc' := 12) 0 rfl D_Cb_pairOdds_0.1.2.1.2 rfl rfl) ?_
      refine z_b1 (fun h7 q6 => ?_)
      refine z_callV (pc' := 15) I mv_Cb_rankNow ml_Cb_243 (fun ad => []) ⟨Nat.le_of_ble_eq_true rfl, Nat.le_of_ble_eq_true rfl⟩ ao (fun hh => c_Cb_rankNow hw ao hh q6) rfl rfl (Nat.le_of_ble_eq_true rfl) D_Cb_pairOdds_0.1.2.2.1 rfl (fun f5 => ?_)
      refine z_s I (s_aload_n (pc' := 16) 0 rfl D_Cb_pairOdds_0.1.2.2.2 rfl rfl) ?_
      refine z_getR (pc' := 19) (eI := o + 99) I g_Cb_61 ao rfl (by omega) D_Cb_pairOdds_0.2.1.1.1 rfl ?_
      have k8 : ok τ (4, 4) (o + 99) := r_Cb_ranking hw ao (by omega)
      refine z_s I (s_iload_n (pc' := 20) 1 rfl D_Cb_pairOdds_0.2.1.1.2 rfl rfl) ?_
      refine z_b1 (fun r11 q10 => ?_)
      refine z_callV (pc' := 23) I mv_Ranking_has ml_Cb_261 (fun ad => [vI x1]) ⟨Nat.le_of_ble_eq_true rfl, Nat.le_of_ble_eq_true rfl⟩ k8 (fun hh => c_Ranking_has hw k8 ax1 hh q10) rfl rfl (Nat.le_of_ble_eq_true rfl) D_Cb_pairOdds_0.2.1.2.1 rfl (fun f9 => ?_)
      refine z_if_ne (tgt := 30) (pc' := 26) I (b01.R f9) D_Cb_pairOdds_0.2.1.2.2 rfl rfl (fun c12 => ?_) (fun c12 => ?_)
      · refine z_s I (s_iload_n (pc' := 31) 2 rfl D_Cb_pairOdds_0.2.2.2.1 rfl rfl) ?_
        refine z_if_ne (tgt := 46) (pc' := 34) I ax2 D_Cb_pairOdds_0.2.2.2.2 rfl rfl (fun c13 => ?_) (fun c13 => ?_)
        · refine z_s I (s_aload_n (pc' := 47) 0 rfl D_Cb_pairOdds_1.2.1.1 rfl rfl) ?_
          refine z_getR (pc' := 50) (eI := o + 99) I g_Cb_61 ao rfl (by omega) D_Cb_pairOdds_1.2.1.2.1 rfl ?_
          have k14 : ok τ (4, 4) (o + 99) := r_Cb_ranking hw ao (by omega)
          refine z_getR (pc' := 53) (eI := o + 103) I g_Cb_274 k14 rfl (by omega) D_Cb_pairOdds_1.2.1.2.2 rfl ?_
          have k15 : ok τ (1, 28) (o + 103) := r_Ranking_below hw k14 (by omega)
          refine z_s I (s_iload_n (pc' := 54) 1 rfl D_Cb_pairOdds_1.2.2.1 rfl rfl) ?_
          refine z_lald (pc' := 55) (nI := 28) I k15 ax1 rfl D_Cb_pairOdds_1.2.2.2.1 rfl (fun c16 f17 => ?_)
          exact z_ret (w := some (vL (h7 (o + 103) x1))) I (fun g => gk0 _ _ g f17) ⟨_, rfl⟩ D_Cb_pairOdds_1.2.2.2.2 rfl
        · refine z_s I (s_aload_n (pc' := 35) 0 rfl D_Cb_pairOdds_1.1.1.1 rfl rfl) ?_
          refine z_getR (pc' := 38) (eI := o + 99) I g_Cb_61 ao rfl (by omega) D_Cb_pairOdds_1.1.1.2.1 rfl ?_
          have k18 : ok τ (4, 4) (o + 99) := r_Cb_ranking hw ao (by omega)
          refine z_getR (pc' := 41) (eI := o + 102) I g_Cb_270 k18 rfl (by omega) D_Cb_pairOdds_1.1.1.2.2 rfl ?_
          have k19 : ok τ (1, 28) (o + 102) := r_Ranking_above hw k18 (by omega)
          refine z_s I (s_iload_n (pc' := 42) 1 rfl D_Cb_pairOdds_1.1.2.1 rfl rfl) ?_
          refine z_lald (pc' := 43) (nI := 28) I k19 ax1 rfl D_Cb_pairOdds_1.1.2.2.1 rfl (fun c20 f21 => ?_)
          refine z_s I (s_goto (tgt := 55) D_Cb_pairOdds_1.1.2.2.2 rfl) ?_
          exact z_ret (w := some (vL (h7 (o + 102) x1))) I (fun g => gk0 _ _ g f21) ⟨_, rfl⟩ D_Cb_pairOdds_1.2.2.2.2 rfl
      · refine z_ldc2 (pc' := 29) (x := (-9223372036854775808)) I cl_Cb_215 (by decide +kernel) D_Cb_pairOdds_0.2.2.1.1 rfl ?_
        exact z_ret (w := some (vL (-9223372036854775808))) I (fun g => gk0 _ _ g (inL_c (x := (-9223372036854775808)) rfl)) ⟨_, rfl⟩ D_Cb_pairOdds_0.2.2.1.2 rfl
    · refine z_ldc2 (pc' := 10) (x := (-9223372036854775808)) I cl_Cb_215 (by decide +kernel) D_Cb_pairOdds_0.1.1.2.2 rfl ?_
      exact z_ret (w := some (vL (-9223372036854775808))) I (fun g => gk0 _ _ g (inL_c (x := (-9223372036854775808)) rfl)) ⟨_, rfl⟩ D_Cb_pairOdds_0.1.2.1.1 rfl
  exact main _ hF (by rw [hG0])
set_option maxHeartbeats 4000000 in
set_option maxRecDepth 20000 in
theorem c_Ranking_placeOf {l : Launch} {τ : TP} {o : Int} {x1 : Int} {x2 : Int} {h : HP} {r : Int} (hw : wf τ) (ao : ok τ (4, 4) o) (ax1 : inR x1) (ax2 : inR x2) (hh : hr τ h) (hF : m_Ranking_placeOf o x1 x2 h = some r) : Ctr l y_Ranking_placeOf k_Ranking_placeOf 6 (Option.some FieldType.int) 1 21 τ (fun ad => [vR ad o, vI x1, vI x2]) h (some (vI r)) h (inR r) := by
  refine ctr_of (by decide) hw hh (fun ad => Nat.le_of_ble_eq_true rfl) (fun ad K Y I hK => ?_)
  obtain ⟨G0, hG0⟩ : ∃ G : Int → Prop, G = fun x => x = r := ⟨_, rfl⟩
  have gk0 : ∀ (x : Int), G0 x → inR x → K (some (vI x)) h := fun x g q => by
    rw [hG0] at g
    cases g
    exact hK q
  have L16 : ∀ (x3 : Int) (ax3 : inR x3) (x4 : Int) (ax4 : inR x4) (s : Int), (inR s) → Z Y (m_Ranking_placeOf_L16 o x3 x4 h s) G0 h 16 [(0, vR ad o), (3, vI x3), (4, vI x4), (5, vI s)] [] := by
    intro x3 ax3 x4 ax4 s hs
    refine z_loop (G := G0) (hO := fun s : Int => h) (lO := fun s : Int => [(0, vR ad o), (3, vI x3), (4, vI x4), (5, vI s)]) (Φ := fun s : Int => inR s) (fun G1 hin1_1 hout1 s hs => ?_) FUEL s hs
    obtain ⟨x5, rfl⟩ : ∃ z, z = s := ⟨_, rfl⟩
    have ax5 := hs
    have gk1 := fun (x : Int) (g : G1 (.inr (x))) (q : inR x) => gk0 x (hout1 _ g) q
    show Z Y (m_Ranking_placeOf_L16b o x3 x4 h x5) G1 h 16 [(0, vR ad o), (3, vI x3), (4, vI x4), (5, vI x5)] []
    unfold m_Ranking_placeOf_L16b
    refine z_s I (s_iload (pc' := 18) 3 rfl D_Ranking_placeOf_0.2.1.2.1 rfl) ?_
    refine z_s I (s_aload_n (pc' := 19) 0 rfl D_Ranking_placeOf_0.2.1.2.2 rfl rfl) ?_
    refine z_getI (pc' := 22) (jI := 0) I g_Ranking_9 ao rfl rfl D_Ranking_placeOf_0.2.2.1.1 rfl (fun f1 => ?_)
    refine z_icmp_ge (tgt := 57) (pc' := 25) I ax5 f1 D_Ranking_placeOf_0.2.2.1.2 rfl rfl (fun c2 => ?_) (fun c2 => ?_)
    · refine z_s I (s_iconst (pc' := 58) D_Ranking_placeOf_1.2.2.2.1 rfl) ?_
      exact z_ret (w := some (vI (-1))) I (fun g => gk1 _ g (inR_c (x := (-1)) rfl)) ⟨_, rfl⟩ D_Ranking_placeOf_1.2.2.2.2 rfl
    · refine z_s I (s_aload_n (pc' := 26) 0 rfl D_Ranking_placeOf_0.2.2.2.1 rfl rfl) ?_
      refine z_getR (pc' := 29) (eI := o + 1) I g_Ranking_18 ao rfl (by omega) D_Ranking_placeOf_0.2.2.2.2 rfl ?_
      have k3 : ok τ (0, 28) (o + 1) := r_Ranking_lower hw ao (by omega)
      refine z_s I (s_iload (pc' := 31) 3 rfl D_Ranking_placeOf_1.1.1.1.1 rfl) ?_
      refine z_iald (pc' := 32) (nI := 28) I k3 ax5 rfl D_Ranking_placeOf_1.1.1.1.2 rfl (fun c4 f5 => ?_)
      refine z_s I (s_iload_n (pc' := 33) 1 rfl D_Ranking_placeOf_1.1.1.2.1 rfl rfl) ?_
      refine z_icmp_ne (tgt := 51) (pc' := 36) I f5 ax3 D_Ranking_placeOf_1.1.1.2.2 rfl rfl (fun c6 => ?_) (fun c6 => ?_)
      · refine z_s I (s_iinc (pc' := 54) (lv' := [(5, vI (w32 (x5 + 1))), (0, vR ad o), (3, vI x3), (4, vI x4)]) (n := 3) rfl D_Ranking_placeOf_1.2.2.1.1 (by decide) rfl rfl) ?_
        refine z_s I (s_goto (tgt := 16) D_Ranking_placeOf_1.2.2.1.2 rfl) ?_
        refine z_s I (s_lv (lv' := [(0, vR ad o), (3, vI x3), (4, vI x4), (5, vI (w32 (x5 + 1)))]) [1, 2, 3, 0] rfl) ?_
        exact z_end (fun g => hin1_1 _ g (inR_w32 _))
      · refine z_s I (s_aload_n (pc' := 37) 0 rfl D_Ranking_placeOf_1.1.2.1.1 rfl rfl) ?_
        refine z_getR (pc' := 40) (eI := o + 2) I g_Ranking_22 ao rfl (by omega) D_Ranking_placeOf_1.1.2.1.2 rfl ?_
        have k7 : ok τ (0, 28) (o + 2) := r_Ranking_upper hw ao (by omega)
        refine z_s I (s_iload (pc' := 42) 3 rfl D_Ranking_placeOf_1.1.2.2.1 rfl) ?_
        refine z_iald (pc' := 43) (nI := 28) I k7 ax5 rfl D_Ranking_placeOf_1.1.2.2.2 rfl (fun c8 f9 => ?_)
        refine z_s I (s_iload (pc' := 45) 2 rfl D_Ranking_placeOf_1.2.1.1.1 rfl) ?_
        refine z_icmp_ne (tgt := 51) (pc' := 48) I f9 ax4 D_Ranking_placeOf_1.2.1.1.2 rfl rfl (fun c10 => ?_) (fun c10 => ?_)
        · refine z_s I (s_iinc (pc' := 54) (lv' := [(5, vI (w32 (x5 + 1))), (0, vR ad o), (3, vI x3), (4, vI x4)]) (n := 3) rfl D_Ranking_placeOf_1.2.2.1.1 (by decide) rfl rfl) ?_
          refine z_s I (s_goto (tgt := 16) D_Ranking_placeOf_1.2.2.1.2 rfl) ?_
          refine z_s I (s_lv (lv' := [(0, vR ad o), (3, vI x3), (4, vI x4), (5, vI (w32 (x5 + 1)))]) [1, 2, 3, 0] rfl) ?_
          exact z_end (fun g => hin1_1 _ g (inR_w32 _))
        · refine z_s I (s_iload (pc' := 50) 3 rfl D_Ranking_placeOf_1.2.1.2.1 rfl) ?_
          exact z_ret (w := some (vI x5)) I (fun g => gk1 _ g ax5) ⟨_, rfl⟩ D_Ranking_placeOf_1.2.1.2.2 rfl
  have main : Z Y (m_Ranking_placeOf o x1 x2 h) G0 h 0 [(0, vR ad o), (1, vI x1), (2, vI x2)] [] := by
    unfold m_Ranking_placeOf
    refine z_s I (s_iload_n (pc' := 1) 1 rfl D_Ranking_placeOf_0.1.1.1.1 rfl rfl) ?_
    refine z_s I (s_iload_n (pc' := 2) 2 rfl D_Ranking_placeOf_0.1.1.1.2 rfl rfl) ?_
    refine z_mmin (pc' := 5) I ax1 ax2 ml_Ranking_66 (Nat.le_of_ble_eq_true rfl) (Nat.le_of_ble_eq_true rfl) D_Ranking_placeOf_0.1.1.2.1 rfl (fun f11 => ?_)
    refine z_bI f11 (fun v12 e13 f14 => ?_)
    refine z_s I (s_istore_n (pc' := 6) (lv' := [(3, vI v12), (0, vR ad o), (1, vI x1), (2, vI x2)]) D_Ranking_placeOf_0.1.1.2.2 rfl (by decide) rfl rfl) ?_
    refine z_s I (s_iload_n (pc' := 7) 2 rfl D_Ranking_placeOf_0.1.2.1.1 rfl rfl) ?_
    refine z_s I (s_iload_n (pc' := 8) 3 rfl D_Ranking_placeOf_0.1.2.1.2 rfl rfl) ?_
    refine z_mmax (pc' := 11) I ax1 ax2 ml_Ranking_71 (Nat.le_of_ble_eq_true rfl) (Nat.le_of_ble_eq_true rfl) D_Ranking_placeOf_0.1.2.2.1 rfl (fun f15 => ?_)
    refine z_bI f15 (fun v16 e17 f18 => ?_)
    refine z_s I (s_istore (pc' := 13) (lv' := [(4, vI v16), (3, vI v12), (0, vR ad o), (1, vI x1), (2, vI x2)]) D_Ranking_placeOf_0.1.2.2.2 (by decide) rfl rfl) ?_
    refine z_s I (s_iconst (pc' := 14) D_Ranking_placeOf_0.2.1.1.1 rfl) ?_
    refine z_s I (s_istore (pc' := 16) (lv' := [(5, vI 0), (4, vI v16), (3, vI v12), (0, vR ad o), (1, vI x1), (2, vI x2)]) D_Ranking_placeOf_0.2.1.1.2 (by decide) rfl rfl) ?_
    refine z_s I (s_lv (lv' := [(0, vR ad o), (3, vI v12), (4, vI v16), (5, vI 0)]) [3, 2, 1, 0] rfl) ?_
    exact L16 _ f14 _ f18 _ (b01.R bz0)
  exact main _ hF (by rw [hG0])
set_option maxHeartbeats 4000000 in
set_option maxRecDepth 20000 in
theorem c_Cb_rank {l : Launch} {τ : TP} {o : Int} {x1 : Int} {x2 : Int} {h : HP} {r : Int} {h' : HP} (hw : wf τ) (ao : ok τ (4, 9) o) (ax1 : inR x1) (ax2 : inR x2) (hh : hr τ h) (hF : m_Cb_rank o x1 x2 h = some (r, h')) : Ctr l y_Cb_rank k_Cb_rank 3 (Option.some FieldType.int) 6 158 τ (fun ad => [vR ad o, vI x1, vI x2]) h (some (vI r)) h' (inR r) := by
  refine ctr_of (by decide) hw hh (fun ad => Nat.le_of_ble_eq_true rfl) (fun ad K Y I hK => ?_)
  obtain ⟨G0, hG0⟩ : ∃ G : Int × HP → Prop, G = fun x => x = (r, h') := ⟨_, rfl⟩
  have gk0 : ∀ (x : Int) (y : HP), G0 (x, y) → inR x → K (some (vI x)) y := fun x y g q => by
    rw [hG0] at g
    cases g
    exact hK q
  have main : Z Y (m_Cb_rank o x1 x2 h) G0 h 0 [(0, vR ad o), (1, vI x1), (2, vI x2)] [] := by
    unfold m_Cb_rank
    refine z_s I (s_aload_n (pc' := 1) 0 rfl D_Cb_rank_0.1.1.1.1 rfl rfl) ?_
    refine z_getR (pc' := 4) (eI := o + 1) I g_Cb_12 ao rfl (by omega) D_Cb_rank_0.1.1.1.2 rfl ?_
    have k1 : ok τ (4, 1) (o + 1) := r_Cb_now hw ao (by omega)
    refine z_s I (s_iload_n (pc' := 5) 1 rfl D_Cb_rank_0.1.1.2.1 rfl rfl) ?_
    refine z_s I (s_iload_n (pc' := 6) 2 rfl D_Cb_rank_0.1.1.2.2 rfl rfl) ?_
    refine z_b1 (fun r4 q3 => ?_)
    refine z_callV (pc' := 9) I mv_Exam_hasTwo ml_Cb_193 (fun ad => [vI x1, vI x2]) ⟨Nat.le_of_ble_eq_true rfl, Nat.le_of_ble_eq_true rfl⟩ k1 (fun hh => c_Exam_hasTwo hw k1 ax1 ax2 hh q3) rfl rfl (Nat.le_of_ble_eq_true rfl) D_Cb_rank_0.1.2.1.1 rfl (fun f2 => ?_)
    refine z_if_ne (tgt := 14) (pc' := 12) I (b01.R f2) D_Cb_rank_0.1.2.1.2 rfl rfl (fun c5 => ?_) (fun c5 => ?_)
    · refine z_s I (s_aload_n (pc' := 15) 0 rfl D_Cb_rank_0.2.1.1.1 rfl rfl) ?_
      refine z_b1 (fun h8 q7 => ?_)
      refine z_callV (pc' := 18) I mv_Cb_rankNow ml_Cb_243 (fun ad => []) ⟨Nat.le_of_ble_eq_true rfl, Nat.le_of_ble_eq_true rfl⟩ ao (fun hh => c_Cb_rankNow hw ao hh q7) rfl rfl (Nat.le_of_ble_eq_true rfl) D_Cb_rank_0.2.1.1.2 rfl (fun f6 => ?_)
      refine z_s I (s_aload_n (pc' := 19) 0 rfl D_Cb_rank_0.2.1.2.1 rfl rfl) ?_
      refine z_getR (pc' := 22) (eI := o + 99) I g_Cb_61 ao rfl (by omega) D_Cb_rank_0.2.1.2.2 rfl ?_
      have k9 : ok τ (4, 4) (o + 99) := r_Cb_ranking hw ao (by omega)
      refine z_s I (s_iload_n (pc' := 23) 1 rfl D_Cb_rank_0.2.2.1.1 rfl rfl) ?_
      refine z_s I (s_iload_n (pc' := 24) 2 rfl D_Cb_rank_0.2.2.1.2 rfl rfl) ?_
      refine z_b1 (fun r12 q11 => ?_)
      refine z_callV (pc' := 27) I mv_Ranking_placeOf ml_Cb_277 (fun ad => [vI x1, vI x2]) ⟨Nat.le_of_ble_eq_true rfl, Nat.le_of_ble_eq_true rfl⟩ k9 (fun hh => c_Ranking_placeOf hw k9 ax1 ax2 hh q11) rfl rfl (Nat.le_of_ble_eq_true rfl) D_Cb_rank_0.2.2.2.1 rfl (fun f10 => ?_)
      refine z_b1 (fun r15 q14 => ?_)
      refine z_callS (pc' := 30) I mv_Cb_orNeither ml_Cb_129 (fun ad => [vI r12]) ⟨Nat.le_of_ble_eq_true rfl, Nat.le_of_ble_eq_true rfl⟩ (fun hh => c_Cb_orNeither hw f10 hh q14) rfl rfl (Nat.le_of_ble_eq_true rfl) D_Cb_rank_0.2.2.2.2 rfl (fun f13 => ?_)
      exact z_ret (w := some (vI r15)) I (fun g => gk0 _ _ g f13) ⟨_, rfl⟩ D_Cb_rank_1 rfl
    · refine z_s I (s_iconst (pc' := 13) D_Cb_rank_0.1.2.2.1 rfl) ?_
      exact z_ret (w := some (vI (-1))) I (fun g => gk0 _ _ g (inR_c (x := (-1)) rfl)) ⟨_, rfl⟩ D_Cb_rank_0.1.2.2.2 rfl
  exact main _ hF (by rw [hG0])
set_option maxHeartbeats 4000000 in
set_option maxRecDepth 20000 in
theorem c_Cb_linked {l : Launch} {τ : TP} {o : Int} {x1 : Int} {h : HP} {r : Int} {h' : HP} (hw : wf τ) (ao : ok τ (4, 9) o) (ax1 : inR x1) (hh : hr τ h) (hF : m_Cb_linked o x1 h = some (r, h')) : Ctr l y_Cb_linked k_Cb_linked 2 (Option.some FieldType.int) 6 158 τ (fun ad => [vR ad o, vI x1]) h (some (vI r)) h' (inR r) := by
  refine ctr_of (by decide) hw hh (fun ad => Nat.le_of_ble_eq_true rfl) (fun ad K Y I hK => ?_)
  obtain ⟨G0, hG0⟩ : ∃ G : Int × HP → Prop, G = fun x => x = (r, h') := ⟨_, rfl⟩
  have gk0 : ∀ (x : Int) (y : HP), G0 (x, y) → inR x → K (some (vI x)) y := fun x y g q => by
    rw [hG0] at g
    cases g
    exact hK q
  have main : Z Y (m_Cb_linked o x1 h) G0 h 0 [(0, vR ad o), (1, vI x1)] [] := by
    unfold m_Cb_linked
    refine z_s I (s_aload_n (pc' := 1) 0 rfl D_Cb_linked_0.1.1.1 rfl rfl) ?_
    refine z_getR (pc' := 4) (eI := o + 1) I g_Cb_12 ao rfl (by omega) D_Cb_linked_0.1.1.2.1 rfl ?_
    have k1 : ok τ (4, 1) (o + 1) := r_Cb_now hw ao (by omega)
    refine z_s I (s_iload_n (pc' := 5) 1 rfl D_Cb_linked_0.1.1.2.2 rfl rfl) ?_
    refine z_b1 (fun r4 q3 => ?_)
    refine z_callV (pc' := 8) I mv_Exam_hasCandidate ml_Cb_123 (fun ad => [vI x1]) ⟨Nat.le_of_ble_eq_true rfl, Nat.le_of_ble_eq_true rfl⟩ k1 (fun hh => c_Exam_hasCandidate hw k1 ax1 hh q3) rfl rfl (Nat.le_of_ble_eq_true rfl) D_Cb_linked_0.1.2.1.1 rfl (fun f2 => ?_)
    refine z_if_ne (tgt := 13) (pc' := 11) I (b01.R f2) D_Cb_linked_0.1.2.1.2 rfl rfl (fun c5 => ?_) (fun c5 => ?_)
    · refine z_s I (s_aload_n (pc' := 14) 0 rfl D_Cb_linked_0.2.1.1.1 rfl rfl) ?_
      refine z_b1 (fun h8 q7 => ?_)
      refine z_callV (pc' := 17) I mv_Cb_linkNow ml_Cb_252 (fun ad => []) ⟨Nat.le_of_ble_eq_true rfl, Nat.le_of_ble_eq_true rfl⟩ ao (fun hh => c_Cb_linkNow hw ao hh q7) rfl rfl (Nat.le_of_ble_eq_true rfl) D_Cb_linked_0.2.1.1.2 rfl (fun f6 => ?_)
      refine z_s I (s_aload_n (pc' := 18) 0 rfl D_Cb_linked_0.2.1.2.1 rfl rfl) ?_
      refine z_getR (pc' := 21) (eI := o + 106) I g_Cb_68 ao rfl (by omega) D_Cb_linked_0.2.1.2.2 rfl ?_
      have k9 : ok τ (4, 2) (o + 106) := r_Cb_links hw ao (by omega)
      refine z_getR (pc' := 24) (eI := o + 107) I g_Cb_280 k9 rfl (by omega) D_Cb_linked_0.2.2.1.1 rfl ?_
      have k10 : ok τ (0, 8) (o + 107) := r_Links_suspectWith hw k9 (by omega)
      refine z_s I (s_iload_n (pc' := 25) 1 rfl D_Cb_linked_0.2.2.1.2 rfl rfl) ?_
      refine z_iald (pc' := 26) (nI := 8) I k10 ax1 rfl D_Cb_linked_0.2.2.2.1 rfl (fun c11 f12 => ?_)
      exact z_ret (w := some (vI (h8 (o + 107) x1))) I (fun g => gk0 _ _ g f12) ⟨_, rfl⟩ D_Cb_linked_0.2.2.2.2 rfl
    · refine z_s I (s_iconst (pc' := 12) D_Cb_linked_0.1.2.2.1 rfl) ?_
      exact z_ret (w := some (vI (-1))) I (fun g => gk0 _ _ g (inR_c (x := (-1)) rfl)) ⟨_, rfl⟩ D_Cb_linked_0.1.2.2.2 rfl
  exact main _ hF (by rw [hG0])
set_option maxHeartbeats 4000000 in
set_option maxRecDepth 20000 in
theorem c_Links_reachedFrom {l : Launch} {τ : TP} {o : Int} {x1 : Int} {h : HP} {r : Int} (hw : wf τ) (ao : ok τ (4, 2) o) (ax1 : inR x1) (hh : hr τ h) (hF : m_Links_reachedFrom o x1 h = some r) : Ctr l y_Links_reachedFrom k_Links_reachedFrom 5 (Option.some FieldType.int) 0 0 τ (fun ad => [vR ad o, vI x1]) h (some (vI r)) h (inR r) := by
  refine ctr_of (by decide) hw hh (fun ad => Nat.le_of_ble_eq_true rfl) (fun ad K Y I hK => ?_)
  obtain ⟨G0, hG0⟩ : ∃ G : Int → Prop, G = fun x => x = r := ⟨_, rfl⟩
  have gk0 : ∀ (x : Int), G0 x → inR x → K (some (vI x)) h := fun x g q => by
    rw [hG0] at g
    cases g
    exact hK q
  have L6 : ∀ (s : Int × Int), (inR (s.1) ∧ inR (s.2)) → Z Y (m_Links_reachedFrom_L6 o h s) G0 h 6 [(0, vR ad o), (2, vI (s.1)), (3, vI (s.2))] [] := by
    intro s hs
    refine z_loop (G := G0) (hO := fun s : Int × Int => h) (lO := fun s : Int × Int => [(0, vR ad o), (2, vI (s.1)), (3, vI (s.2))]) (Φ := fun s : Int × Int => inR (s.1) ∧ inR (s.2)) (fun G1 hin1_1 hout1 s hs => ?_) FUEL s hs
    obtain ⟨x2, x3⟩ := s
    obtain ⟨ax2, ax3⟩ := hs
    have gk1 := fun (x : Int) (g : G1 (.inr (x))) (q : inR x) => gk0 x (hout1 _ g) q
    have L15 : ∀ (x3 : Int) (ax3 : inR x3) (s : Int × Int), (inR (s.1) ∧ inR (s.2)) → Z Y (m_Links_reachedFrom_L15 o x3 h s) G1 h 15 [(0, vR ad o), (3, vI x3), (2, vI (s.1)), (4, vI (s.2))] [] := by
      intro x3 ax3 s hs
      refine z_loop (G := G1) (hO := fun s : Int × Int => h) (lO := fun s : Int × Int => [(0, vR ad o), (3, vI x3), (2, vI (s.1)), (4, vI (s.2))]) (Φ := fun s : Int × Int => inR (s.1) ∧ inR (s.2)) (fun G2 hin2_2 hout2 s hs => ?_) FUEL s hs
      obtain ⟨x2, x4⟩ := s
      obtain ⟨ax2, ax4⟩ := hs
      have hin1_2 := fun (s' : Int × Int) (g : G2 (.inr (.inl s'))) => hin1_1 s' (hout2 _ g)
      have gk2 := fun (x : Int) (g : G2 (.inr (.inr (x)))) (q : inR x) => gk1 x (hout2 _ g) q
      show Z Y (m_Links_reachedFrom_L15b o x3 h x2 x4) G2 h 15 [(0, vR ad o), (3, vI x3), (2, vI x2), (4, vI x4)] []
      unfold m_Links_reachedFrom_L15b
      refine z_s I (s_iload (pc' := 17) 3 rfl D_Links_reachedFrom_0.2.1.2.2 rfl) ?_
      refine z_s I (s_bipush (pc' := 19) D_Links_reachedFrom_0.2.2.1.1 rfl rfl) ?_
      refine z_icmp_ge (tgt := 47) (pc' := 22) I ax4 (inR_c (x := 8) rfl) D_Links_reachedFrom_0.2.2.1.2 rfl rfl (fun c1 => ?_) (fun c1 => ?_)
      · refine z_s I (s_iinc (pc' := 50) (lv' := [(3, vI (w32 (x3 + 1))), (0, vR ad o), (2, vI x2), (4, vI x4)]) (n := 1) rfl D_Links_reachedFrom_1.2.2.1.2 (by decide) rfl rfl) ?_
        refine z_s I (s_goto (tgt := 6) D_Links_reachedFrom_1.2.2.2.1 rfl) ?_
        refine z_s I (s_lv (lv' := [(0, vR ad o), (2, vI x2), (3, vI (w32 (x3 + 1)))]) [1, 2, 0] rfl) ?_
        exact z_end (fun g => hin1_2 _ g ⟨ax2, (inR_w32 _)⟩)
      · refine z_s I (s_iload_n (pc' := 23) 2 rfl D_Links_reachedFrom_0.2.2.2.1 rfl rfl) ?_
        refine z_s I (s_iload (pc' := 25) 3 rfl D_Links_reachedFrom_0.2.2.2.2 rfl) ?_
        refine z_s I (s_ishr (pc' := 26) D_Links_reachedFrom_1.1.1.1.1 rfl) ?_
        refine z_s I (s_iconst (pc' := 27) D_Links_reachedFrom_1.1.1.1.2 rfl) ?_
        refine z_s I (s_iand (pc' := 28) D_Links_reachedFrom_1.1.1.2.1 rfl) ?_
        refine z_if_eq (tgt := 41) (pc' := 31) I (r_iAnd _ _) D_Links_reachedFrom_1.1.1.2.2 rfl rfl (fun c2 => ?_) (fun c2 => ?_)
        · refine z_s I (s_iinc (pc' := 44) (lv' := [(4, vI (w32 (x4 + 1))), (0, vR ad o), (3, vI x3), (2, vI x2)]) (n := 3) rfl D_Links_reachedFrom_1.2.1.2.2 (by decide) rfl rfl) ?_
          refine z_s I (s_goto (tgt := 15) D_Links_reachedFrom_1.2.2.1.1 rfl) ?_
          refine z_s I (s_lv (lv' := [(0, vR ad o), (3, vI x3), (2, vI x2), (4, vI (w32 (x4 + 1)))]) [1, 2, 3, 0] rfl) ?_
          exact z_end (fun g => hin2_2 _ g ⟨ax2, (inR_w32 _)⟩)
        · refine z_s I (s_iload_n (pc' := 32) 2 rfl D_Links_reachedFrom_1.1.2.1.1 rfl rfl) ?_
          refine z_s I (s_aload_n (pc' := 33) 0 rfl D_Links_reachedFrom_1.1.2.1.2 rfl rfl) ?_
          refine z_getR (pc' := 36) (eI := o + 1) I g_Links_9 ao rfl (by omega) D_Links_reachedFrom_1.1.2.2.1 rfl ?_
          have k3 : ok τ (0, 8) (o + 1) := r_Links_suspectWith hw ao (by omega)
          refine z_s I (s_iload (pc' := 38) 3 rfl D_Links_reachedFrom_1.1.2.2.2 rfl) ?_
          refine z_iald (pc' := 39) (nI := 8) I k3 ax4 rfl D_Links_reachedFrom_1.2.1.1.1 rfl (fun c4 f5 => ?_)
          refine z_s I (s_ior (pc' := 40) D_Links_reachedFrom_1.2.1.1.2 rfl) ?_
          refine z_bI (r_iOr _ _) (fun v6 e7 f8 => ?_)
          refine z_s I (s_istore_n (pc' := 41) (lv' := [(2, vI v6), (0, vR ad o), (3, vI x3), (4, vI x4)]) D_Links_reachedFrom_1.2.1.2.1 rfl (by decide) rfl rfl) ?_
          refine z_s I (s_iinc (pc' := 44) (lv' := [(4, vI (w32 (x4 + 1))), (2, vI v6), (0, vR ad o), (3, vI x3)]) (n := 3) rfl D_Links_reachedFrom_1.2.1.2.2 (by decide) rfl rfl) ?_
          refine z_s I (s_goto (tgt := 15) D_Links_reachedFrom_1.2.2.1.1 rfl) ?_
          refine z_s I (s_lv (lv' := [(0, vR ad o), (3, vI x3), (2, vI v6), (4, vI (w32 (x4 + 1)))]) [2, 3, 1, 0] rfl) ?_
          exact z_end (fun g => hin2_2 _ g ⟨f8, (inR_w32 _)⟩)
    show Z Y (m_Links_reachedFrom_L6b o h x2 x3) G1 h 6 [(0, vR ad o), (2, vI x2), (3, vI x3)] []
    unfold m_Links_reachedFrom_L6b
    refine z_s I (s_iload_n (pc' := 7) 2 rfl D_Links_reachedFrom_0.1.2.2.1 rfl rfl) ?_
    refine z_s I (s_bipush (pc' := 9) D_Links_reachedFrom_0.1.2.2.2 rfl rfl) ?_
    refine z_icmp_ge (tgt := 53) (pc' := 12) I ax3 (inR_c (x := 8) rfl) D_Links_reachedFrom_0.2.1.1.1 rfl rfl (fun c9 => ?_) (fun c9 => ?_)
    · refine z_s I (s_iload_n (pc' := 54) 1 rfl D_Links_reachedFrom_1.2.2.2.2 rfl rfl) ?_
      exact z_ret (w := some (vI x2)) I (fun g => gk1 _ g ax2) ⟨_, rfl⟩ D_Links_reachedFrom_2 rfl
    · refine z_s I (s_iconst (pc' := 13) D_Links_reachedFrom_0.2.1.1.2 rfl) ?_
      refine z_s I (s_istore (pc' := 15) (lv' := [(4, vI 0), (0, vR ad o), (2, vI x2), (3, vI x3)]) D_Links_reachedFrom_0.2.1.2.1 (by decide) rfl rfl) ?_
      refine z_s I (s_lv (lv' := [(0, vR ad o), (3, vI x3), (2, vI x2), (4, vI 0)]) [1, 3, 2, 0] rfl) ?_
      exact L15 _ ax3 _ ⟨ax2, (b01.R bz0)⟩
  have main : Z Y (m_Links_reachedFrom o x1 h) G0 h 0 [(0, vR ad o), (1, vI x1)] [] := by
    unfold m_Links_reachedFrom
    refine z_s I (s_iconst (pc' := 1) D_Links_reachedFrom_0.1.1.1.1 rfl) ?_
    refine z_s I (s_iload_n (pc' := 2) 1 rfl D_Links_reachedFrom_0.1.1.1.2 rfl rfl) ?_
    refine z_s I (s_ishl (pc' := 3) D_Links_reachedFrom_0.1.1.2.1 rfl) ?_
    refine z_bI (r_iShl _ _) (fun v10 e11 f12 => ?_)
    refine z_s I (s_istore_n (pc' := 4) (lv' := [(2, vI v10), (0, vR ad o), (1, vI x1)]) D_Links_reachedFrom_0.1.1.2.2 rfl (by decide) rfl rfl) ?_
    refine z_s I (s_iconst (pc' := 5) D_Links_reachedFrom_0.1.2.1.1 rfl) ?_
    refine z_s I (s_istore_n (pc' := 6) (lv' := [(3, vI 0), (2, vI v10), (0, vR ad o), (1, vI x1)]) D_Links_reachedFrom_0.1.2.1.2 rfl (by decide) rfl rfl) ?_
    refine z_s I (s_lv (lv' := [(0, vR ad o), (2, vI v10), (3, vI 0)]) [2, 1, 0] rfl) ?_
    exact L6 _ ⟨f12, (b01.R bz0)⟩
  exact main _ hF (by rw [hG0])
set_option maxHeartbeats 4000000 in
set_option maxRecDepth 20000 in
theorem c_Cb_chain {l : Launch} {τ : TP} {o : Int} {x1 : Int} {h : HP} {r : Int} {h' : HP} (hw : wf τ) (ao : ok τ (4, 9) o) (ax1 : inR x1) (hh : hr τ h) (hF : m_Cb_chain o x1 h = some (r, h')) : Ctr l y_Cb_chain k_Cb_chain 2 (Option.some FieldType.int) 6 158 τ (fun ad => [vR ad o, vI x1]) h (some (vI r)) h' (inR r) := by
  refine ctr_of (by decide) hw hh (fun ad => Nat.le_of_ble_eq_true rfl) (fun ad K Y I hK => ?_)
  obtain ⟨G0, hG0⟩ : ∃ G : Int × HP → Prop, G = fun x => x = (r, h') := ⟨_, rfl⟩
  have gk0 : ∀ (x : Int) (y : HP), G0 (x, y) → inR x → K (some (vI x)) y := fun x y g q => by
    rw [hG0] at g
    cases g
    exact hK q
  have main : Z Y (m_Cb_chain o x1 h) G0 h 0 [(0, vR ad o), (1, vI x1)] [] := by
    unfold m_Cb_chain
    refine z_s I (s_aload_n (pc' := 1) 0 rfl D_Cb_chain_0.1.1.1 rfl rfl) ?_
    refine z_getR (pc' := 4) (eI := o + 1) I g_Cb_12 ao rfl (by omega) D_Cb_chain_0.1.1.2.1 rfl ?_
    have k1 : ok τ (4, 1) (o + 1) := r_Cb_now hw ao (by omega)
    refine z_s I (s_iload_n (pc' := 5) 1 rfl D_Cb_chain_0.1.1.2.2 rfl rfl) ?_
    refine z_b1 (fun r4 q3 => ?_)
    refine z_callV (pc' := 8) I mv_Exam_hasCandidate ml_Cb_123 (fun ad => [vI x1]) ⟨Nat.le_of_ble_eq_true rfl, Nat.le_of_ble_eq_true rfl⟩ k1 (fun hh => c_Exam_hasCandidate hw k1 ax1 hh q3) rfl rfl (Nat.le_of_ble_eq_true rfl) D_Cb_chain_0.1.2.1.1 rfl (fun f2 => ?_)
    refine z_if_ne (tgt := 13) (pc' := 11) I (b01.R f2) D_Cb_chain_0.1.2.1.2 rfl rfl (fun c5 => ?_) (fun c5 => ?_)
    · refine z_s I (s_aload_n (pc' := 14) 0 rfl D_Cb_chain_0.2.1.1 rfl rfl) ?_
      refine z_b1 (fun h8 q7 => ?_)
      refine z_callV (pc' := 17) I mv_Cb_linkNow ml_Cb_252 (fun ad => []) ⟨Nat.le_of_ble_eq_true rfl, Nat.le_of_ble_eq_true rfl⟩ ao (fun hh => c_Cb_linkNow hw ao hh q7) rfl rfl (Nat.le_of_ble_eq_true rfl) D_Cb_chain_0.2.1.2.1 rfl (fun f6 => ?_)
      refine z_s I (s_aload_n (pc' := 18) 0 rfl D_Cb_chain_0.2.1.2.2 rfl rfl) ?_
      refine z_getR (pc' := 21) (eI := o + 106) I g_Cb_68 ao rfl (by omega) D_Cb_chain_0.2.2.1.1 rfl ?_
      have k9 : ok τ (4, 2) (o + 106) := r_Cb_links hw ao (by omega)
      refine z_s I (s_iload_n (pc' := 22) 1 rfl D_Cb_chain_0.2.2.1.2 rfl rfl) ?_
      refine z_b1 (fun r12 q11 => ?_)
      refine z_callV (pc' := 25) I mv_Links_reachedFrom ml_Cb_283 (fun ad => [vI x1]) ⟨Nat.le_of_ble_eq_true rfl, Nat.le_of_ble_eq_true rfl⟩ k9 (fun hh => c_Links_reachedFrom hw k9 ax1 hh q11) rfl rfl (Nat.le_of_ble_eq_true rfl) D_Cb_chain_0.2.2.2.1 rfl (fun f10 => ?_)
      exact z_ret (w := some (vI r12)) I (fun g => gk0 _ _ g f10) ⟨_, rfl⟩ D_Cb_chain_0.2.2.2.2 rfl
    · refine z_s I (s_iconst (pc' := 12) D_Cb_chain_0.1.2.2.1 rfl) ?_
      exact z_ret (w := some (vI (-1))) I (fun g => gk0 _ _ g (inR_c (x := (-1)) rfl)) ⟨_, rfl⟩ D_Cb_chain_0.1.2.2.2 rfl
  exact main _ hF (by rw [hG0])
set_option maxHeartbeats 4000000 in
set_option maxRecDepth 20000 in
theorem c_Links_groupAt {l : Launch} {τ : TP} {o : Int} {x1 : Int} {h : HP} {r : Int} (hw : wf τ) (ao : ok τ (4, 2) o) (ax1 : inR x1) (hh : hr τ h) (hF : m_Links_groupAt o x1 h = some r) : Ctr l y_Links_groupAt k_Links_groupAt 4 (Option.some FieldType.int) 2 43 τ (fun ad => [vR ad o, vI x1]) h (some (vI r)) h (inR r) := by
  refine ctr_of (by decide) hw hh (fun ad => Nat.le_of_ble_eq_true rfl) (fun ad K Y I hK => ?_)
  obtain ⟨G0, hG0⟩ : ∃ G : Int → Prop, G = fun x => x = r := ⟨_, rfl⟩
  have gk0 : ∀ (x : Int), G0 x → inR x → K (some (vI x)) h := fun x g q => by
    rw [hG0] at g
    cases g
    exact hK q
  have L4 : ∀ (s : Int × Int), (inR (s.1) ∧ inR (s.2)) → Z Y (m_Links_groupAt_L4 o x1 h s) G0 h 4 [(0, vR ad o), (1, vI x1), (2, vI (s.1)), (3, vI (s.2))] [] := by
    intro s hs
    refine z_loop (G := G0) (hO := fun s : Int × Int => h) (lO := fun s : Int × Int => [(0, vR ad o), (1, vI x1), (2, vI (s.1)), (3, vI (s.2))]) (Φ := fun s : Int × Int => inR (s.1) ∧ inR (s.2)) (fun G1 hin1_1 hout1 s hs => ?_) FUEL s hs
    obtain ⟨x2, x3⟩ := s
    obtain ⟨ax2, ax3⟩ := hs
    have gk1 := fun (x : Int) (g : G1 (.inr (x))) (q : inR x) => gk0 x (hout1 _ g) q
    show Z Y (m_Links_groupAt_L4b o x1 h x2 x3) G1 h 4 [(0, vR ad o), (1, vI x1), (2, vI x2), (3, vI x3)] []
    unfold m_Links_groupAt_L4b
    refine z_s I (s_iload_n (pc' := 5) 3 rfl D_Links_groupAt_0.1.2.1.1 rfl rfl) ?_
    refine z_s I (s_sipush (pc' := 8) D_Links_groupAt_0.1.2.1.2 rfl rfl) ?_
    refine z_icmp_ge (tgt := 35) (pc' := 11) I ax3 (inR_c (x := 256) rfl) D_Links_groupAt_0.1.2.2.1 rfl rfl (fun c1 => ?_) (fun c1 => ?_)
    · refine z_s I (s_iconst (pc' := 36) D_Links_groupAt_1.2.2.1 rfl) ?_
      exact z_ret (w := some (vI (-1))) I (fun g => gk1 _ g (inR_c (x := (-1)) rfl)) ⟨_, rfl⟩ D_Links_groupAt_1.2.2.2 rfl
    · refine z_s I (s_aload_n (pc' := 12) 0 rfl D_Links_groupAt_0.1.2.2.2 rfl rfl) ?_
      refine z_s I (s_iload_n (pc' := 13) 3 rfl D_Links_groupAt_0.2.1.1.1 rfl rfl) ?_
      refine z_b1 (fun r4 q3 => ?_)
      refine z_callV (pc' := 16) I mv_Links_isGroup ml_Links_27 (fun ad => [vI x3]) ⟨Nat.le_of_ble_eq_true rfl, Nat.le_of_ble_eq_true rfl⟩ ao (fun hh => c_Links_isGroup hw ao ax3 hh q3) rfl rfl (Nat.le_of_ble_eq_true rfl) D_Links_groupAt_0.2.1.1.2 rfl (fun f2 => ?_)
      refine z_if_eq (tgt := 29) (pc' := 19) I (b01.R f2) D_Links_groupAt_0.2.1.2.1 rfl rfl (fun c5 => ?_) (fun c5 => ?_)
      · refine z_s I (s_iinc (pc' := 32) (lv' := [(3, vI (w32 (x3 + 1))), (0, vR ad o), (1, vI x1), (2, vI x2)]) (n := 3) rfl D_Links_groupAt_1.1.2 (by decide) rfl rfl) ?_
        refine z_s I (s_goto (tgt := 4) D_Links_groupAt_1.2.1 rfl) ?_
        refine z_s I (s_lv (lv' := [(0, vR ad o), (1, vI x1), (2, vI x2), (3, vI (w32 (x3 + 1)))]) [1, 2, 3, 0] rfl) ?_
        exact z_end (fun g => hin1_1 _ g ⟨ax2, (inR_w32 _)⟩)
      · refine z_s I (s_iload_n (pc' := 20) 2 rfl D_Links_groupAt_0.2.1.2.2 rfl rfl) ?_
        refine z_s I (s_iload_n (pc' := 21) 1 rfl D_Links_groupAt_0.2.2.1.1 rfl rfl) ?_
        refine z_icmp_ne (tgt := 26) (pc' := 24) I ax2 ax1 D_Links_groupAt_0.2.2.1.2 rfl rfl (fun c6 => ?_) (fun c6 => ?_)
        · refine z_s I (s_iinc (pc' := 29) (lv' := [(2, vI (w32 (x2 + 1))), (0, vR ad o), (1, vI x1), (3, vI x3)]) (n := 2) rfl D_Links_groupAt_1.1.1 (by decide) rfl rfl) ?_
          refine z_s I (s_iinc (pc' := 32) (lv' := [(3, vI (w32 (x3 + 1))), (2, vI (w32 (x2 + 1))), (0, vR ad o), (1, vI x1)]) (n := 3) rfl D_Links_groupAt_1.1.2 (by decide) rfl rfl) ?_
          refine z_s I (s_goto (tgt := 4) D_Links_groupAt_1.2.1 rfl) ?_
          refine z_s I (s_lv (lv' := [(0, vR ad o), (1, vI x1), (2, vI (w32 (x2 + 1))), (3, vI (w32 (x3 + 1)))]) [2, 3, 1, 0] rfl) ?_
          exact z_end (fun g => hin1_1 _ g ⟨(inR_w32 _), (inR_w32 _)⟩)
        · refine z_s I (s_iload_n (pc' := 25) 3 rfl D_Links_groupAt_0.2.2.2.1 rfl rfl) ?_
          exact z_ret (w := some (vI x3)) I (fun g => gk1 _ g ax3) ⟨_, rfl⟩ D_Links_groupAt_0.2.2.2.2 rfl
  have main : Z Y (m_Links_groupAt o x1 h) G0 h 0 [(0, vR ad o), (1, vI x1)] [] := by
    unfold m_Links_groupAt
    refine z_s I (s_iconst (pc' := 1) D_Links_groupAt_0.1.1.1.1 rfl) ?_
    refine z_s I (s_istore_n (pc' := 2) (lv' := [(2, vI 0), (0, vR ad o), (1, vI x1)]) D_Links_groupAt_0.1.1.1.2 rfl (by decide) rfl rfl) ?_
    refine z_s I (s_iconst (pc' := 3) D_Links_groupAt_0.1.1.2.1 rfl) ?_
    refine z_s I (s_istore_n (pc' := 4) (lv' := [(3, vI 1), (2, vI 0), (0, vR ad o), (1, vI x1)]) D_Links_groupAt_0.1.1.2.2 rfl (by decide) rfl rfl) ?_
    refine z_s I (s_lv (lv' := [(0, vR ad o), (1, vI x1), (2, vI 0), (3, vI 1)]) [2, 3, 1, 0] rfl) ?_
    exact L4 _ ⟨(b01.R bz0), (b01.R bz1)⟩
  exact main _ hF (by rw [hG0])
set_option maxHeartbeats 4000000 in
set_option maxRecDepth 20000 in
theorem c_Cb_group {l : Launch} {τ : TP} {o : Int} {x1 : Int} {h : HP} {r : Int} {h' : HP} (hw : wf τ) (ao : ok τ (4, 9) o) (ax1 : inR x1) (hh : hr τ h) (hF : m_Cb_group o x1 h = some (r, h')) : Ctr l y_Cb_group k_Cb_group 2 (Option.some FieldType.int) 6 158 τ (fun ad => [vR ad o, vI x1]) h (some (vI r)) h' (inR r) := by
  refine ctr_of (by decide) hw hh (fun ad => Nat.le_of_ble_eq_true rfl) (fun ad K Y I hK => ?_)
  obtain ⟨G0, hG0⟩ : ∃ G : Int × HP → Prop, G = fun x => x = (r, h') := ⟨_, rfl⟩
  have gk0 : ∀ (x : Int) (y : HP), G0 (x, y) → inR x → K (some (vI x)) y := fun x y g q => by
    rw [hG0] at g
    cases g
    exact hK q
  have main : Z Y (m_Cb_group o x1 h) G0 h 0 [(0, vR ad o), (1, vI x1)] [] := by
    unfold m_Cb_group
    refine z_s I (s_iload_n (pc' := 1) 1 rfl D_Cb_group_0.1.1.1 rfl rfl) ?_
    refine z_if_ge (tgt := 7) (pc' := 4) I ax1 D_Cb_group_0.1.1.2.1 rfl rfl (fun c1 => ?_) (fun c1 => ?_)
    · refine z_s I (s_aload_n (pc' := 8) 0 rfl D_Cb_group_0.1.2.2.1 rfl rfl) ?_
      refine z_b1 (fun h4 q3 => ?_)
      refine z_callV (pc' := 11) I mv_Cb_linkNow ml_Cb_252 (fun ad => []) ⟨Nat.le_of_ble_eq_true rfl, Nat.le_of_ble_eq_true rfl⟩ ao (fun hh => c_Cb_linkNow hw ao hh q3) rfl rfl (Nat.le_of_ble_eq_true rfl) D_Cb_group_0.1.2.2.2 rfl (fun f2 => ?_)
      refine z_s I (s_aload_n (pc' := 12) 0 rfl D_Cb_group_0.2.1.1 rfl rfl) ?_
      refine z_getR (pc' := 15) (eI := o + 106) I g_Cb_68 ao rfl (by omega) D_Cb_group_0.2.1.2.1 rfl ?_
      have k5 : ok τ (4, 2) (o + 106) := r_Cb_links hw ao (by omega)
      refine z_s I (s_iload_n (pc' := 16) 1 rfl D_Cb_group_0.2.1.2.2 rfl rfl) ?_
      refine z_b1 (fun r8 q7 => ?_)
      refine z_callV (pc' := 19) I mv_Links_groupAt ml_Cb_286 (fun ad => [vI x1]) ⟨Nat.le_of_ble_eq_true rfl, Nat.le_of_ble_eq_true rfl⟩ k5 (fun hh => c_Links_groupAt hw k5 ax1 hh q7) rfl rfl (Nat.le_of_ble_eq_true rfl) D_Cb_group_0.2.2.1 rfl (fun f6 => ?_)
      refine z_b1 (fun r11 q10 => ?_)
      refine z_callS (pc' := 22) I mv_Cb_orNeither ml_Cb_129 (fun ad => [vI r8]) ⟨Nat.le_of_ble_eq_true rfl, Nat.le_of_ble_eq_true rfl⟩ (fun hh => c_Cb_orNeither hw f6 hh q10) rfl rfl (Nat.le_of_ble_eq_true rfl) D_Cb_group_0.2.2.2.1 rfl (fun f9 => ?_)
      exact z_ret (w := some (vI r11)) I (fun g => gk0 _ _ g f9) ⟨_, rfl⟩ D_Cb_group_0.2.2.2.2 rfl
    · refine z_s I (s_bipush (pc' := 6) D_Cb_group_0.1.1.2.2 rfl rfl) ?_
      exact z_ret (w := some (vI (-2))) I (fun g => gk0 _ _ g (inR_c (x := (-2)) rfl)) ⟨_, rfl⟩ D_Cb_group_0.1.2.1 rfl
  exact main _ hF (by rw [hG0])
set_option maxHeartbeats 4000000 in
set_option maxRecDepth 20000 in
theorem c_Seating_gather {l : Launch} {τ : TP} {o : Int} {r1 : Int} {h : HP} {h' : HP} (hw : wf τ) (ao : ok τ (4, 6) o) (ar1 : ok τ (4, 1) r1) (hh : hr τ h) (hF : m_Seating_gather o r1 h = some h') : Ctr l y_Seating_gather k_Seating_gather 3 (Option.none : Option FieldType) 1 21 τ (fun ad => [vR ad o, vR ad r1]) h none h' (True) := by
  refine ctr_of (by decide) hw hh (fun ad => Nat.le_of_ble_eq_true rfl) (fun ad K Y I hK => ?_)
  obtain ⟨G0, hG0⟩ : ∃ G : HP → Prop, G = fun x => x = h' := ⟨_, rfl⟩
  have gk0 : ∀ (x : HP), G0 x → K none x := fun x g => by
    rw [hG0] at g
    cases g
    exact hK trivial
  have L7 : ∀ (s : Int × HP), (inR (s.1)) → Z Y (m_Seating_gather_L7 o r1 s) G0 (s.2) 7 [(0, vR ad o), (1, vR ad r1), (2, vI (s.1))] [] := by
    intro s hs
    refine z_loop (G := G0) (hO := fun s : Int × HP => s.2) (lO := fun s : Int × HP => [(0, vR ad o), (1, vR ad r1), (2, vI (s.1))]) (Φ := fun s : Int × HP => inR (s.1)) (fun G1 hin1_1 hout1 s hs => ?_) FUEL s hs
    obtain ⟨x2, h⟩ := s
    have ax2 := hs
    have gk1 := fun (x : HP) (g : G1 (.inr (x))) => gk0 x (hout1 _ g)
    show Z Y (m_Seating_gather_L7b o r1 x2 h) G1 h 7 [(0, vR ad o), (1, vR ad r1), (2, vI x2)] []
    unfold m_Seating_gather_L7b
    refine z_s I (s_iload_n (pc' := 8) 2 rfl D_Seating_gather_0.1.2.1.2 rfl rfl) ?_
    refine z_s I (s_aload_n (pc' := 9) 1 rfl D_Seating_gather_0.1.2.2.1 rfl rfl) ?_
    refine z_getI (pc' := 12) (jI := 1) I g_Seating_48 ar1 rfl rfl D_Seating_gather_0.1.2.2.2 rfl (fun f1 => ?_)
    refine z_icmp_ge (tgt := 71) (pc' := 15) I ax2 f1 D_Seating_gather_0.2.1.1.1 rfl rfl (fun c2 => ?_) (fun c2 => ?_)
    · exact z_ret (w := none) I (fun g => gk1 _ g) rfl D_Seating_gather_2.2.2.2 rfl
    · refine z_s I (s_aload_n (pc' := 16) 1 rfl D_Seating_gather_0.2.1.1.2 rfl rfl) ?_
      refine z_s I (s_iload_n (pc' := 17) 2 rfl D_Seating_gather_0.2.1.2.1 rfl rfl) ?_
      refine z_b1 (fun r5 q4 => ?_)
      refine z_callV (pc' := 20) I mv_Exam_hasSeat ml_Seating_53 (fun ad => [vI x2]) ⟨Nat.le_of_ble_eq_true rfl, Nat.le_of_ble_eq_true rfl⟩ ar1 (fun hh => c_Exam_hasSeat hw ar1 ax2 hh q4) rfl rfl (Nat.le_of_ble_eq_true rfl) D_Seating_gather_0.2.1.2.2 rfl (fun f3 => ?_)
      refine z_if_eq (tgt := 65) (pc' := 23) I (b01.R f3) D_Seating_gather_0.2.2.1.1 rfl rfl (fun c6 => ?_) (fun c6 => ?_)
      · refine z_s I (s_iinc (pc' := 68) (lv' := [(2, vI (w32 (x2 + 1))), (0, vR ad o), (1, vR ad r1)]) (n := 2) rfl D_Seating_gather_2.2.1.2 (by decide) rfl rfl) ?_
        refine z_s I (s_goto (tgt := 7) D_Seating_gather_2.2.2.1 rfl) ?_
        refine z_s I (s_lv (lv' := [(0, vR ad o), (1, vR ad r1), (2, vI (w32 (x2 + 1)))]) [1, 2, 0] rfl) ?_
        exact z_end (fun g => hin1_1 _ g (inR_w32 _))
      · refine z_s I (s_aload_n (pc' := 24) 0 rfl D_Seating_gather_0.2.2.1.2 rfl rfl) ?_
        refine z_getI (pc' := 27) (jI := 0) I g_Seating_7 ao rfl rfl D_Seating_gather_0.2.2.2.1 rfl (fun f7 => ?_)
        refine z_s I (s_bipush (pc' := 29) D_Seating_gather_0.2.2.2.2 rfl rfl) ?_
        refine z_icmp_ge (tgt := 65) (pc' := 32) I f7 (inR_c (x := 6) rfl) D_Seating_gather_1.1.1.1.1 rfl rfl (fun c8 => ?_) (fun c8 => ?_)
        · refine z_s I (s_iinc (pc' := 68) (lv' := [(2, vI (w32 (x2 + 1))), (0, vR ad o), (1, vR ad r1)]) (n := 2) rfl D_Seating_gather_2.2.1.2 (by decide) rfl rfl) ?_
          refine z_s I (s_goto (tgt := 7) D_Seating_gather_2.2.2.1 rfl) ?_
          refine z_s I (s_lv (lv' := [(0, vR ad o), (1, vR ad r1), (2, vI (w32 (x2 + 1)))]) [1, 2, 0] rfl) ?_
          exact z_end (fun g => hin1_1 _ g (inR_w32 _))
        · refine z_s I (s_aload_n (pc' := 33) 0 rfl D_Seating_gather_1.1.1.1.2 rfl rfl) ?_
          refine z_getR (pc' := 36) (eI := o + 1) I g_Seating_13 ao rfl (by omega) D_Seating_gather_1.1.1.2.1 rfl ?_
          have k9 : ok τ (0, 6) (o + 1) := r_Seating_who hw ao (by omega)
          refine z_s I (s_aload_n (pc' := 37) 0 rfl D_Seating_gather_1.1.1.2.2 rfl rfl) ?_
          refine z_getI (pc' := 40) (jI := 0) I g_Seating_7 ao rfl rfl D_Seating_gather_1.1.2.1.1 rfl (fun f10 => ?_)
          refine z_s I (s_iload_n (pc' := 41) 2 rfl D_Seating_gather_1.1.2.1.2 rfl rfl) ?_
          refine z_iast (pc' := 42) (nI := 6) I k9 f10 ax2 rfl D_Seating_gather_1.1.2.2.1 rfl (fun c11 => ?_)
          refine z_bH (fun h12 e13 => ?_)
          refine z_s I (s_aload_n (pc' := 43) 0 rfl D_Seating_gather_1.1.2.2.2 rfl rfl) ?_
          refine z_getR (pc' := 46) (eI := o + 2) I g_Seating_17 ao rfl (by omega) D_Seating_gather_1.2.1.1.1 rfl ?_
          have k14 : ok τ (0, 6) (o + 2) := r_Seating_seatOf hw ao (by omega)
          refine z_s I (s_aload_n (pc' := 47) 0 rfl D_Seating_gather_1.2.1.1.2 rfl rfl) ?_
          refine z_getI (pc' := 50) (jI := 0) I g_Seating_7 ao rfl rfl D_Seating_gather_1.2.1.2.1 rfl (fun f15 => ?_)
          refine z_s I (s_aload_n (pc' := 51) 0 rfl D_Seating_gather_1.2.1.2.2 rfl rfl) ?_
          refine z_getI (pc' := 54) (jI := 0) I g_Seating_7 ao rfl rfl D_Seating_gather_1.2.2.1.1 rfl (fun f16 => ?_)
          refine z_iast (pc' := 55) (nI := 6) I k14 f15 f16 rfl D_Seating_gather_1.2.2.1.2 rfl (fun c17 => ?_)
          refine z_bH (fun h18 e19 => ?_)
          refine z_s I (s_aload_n (pc' := 56) 0 rfl D_Seating_gather_1.2.2.2.1 rfl rfl) ?_
          refine z_s I (s_dup (pc' := 57) rfl D_Seating_gather_1.2.2.2.2 rfl) ?_
          refine z_getI (pc' := 60) (jI := 0) I g_Seating_7 ao rfl rfl D_Seating_gather_2.1.1 rfl (fun f20 => ?_)
          refine z_s I (s_iconst (pc' := 61) D_Seating_gather_2.1.2.1 rfl) ?_
          refine z_s I (s_iadd (pc' := 62) D_Seating_gather_2.1.2.2 rfl) ?_
          refine z_putI (pc' := 65) (jI := 0) I p_Seating_7 ao rfl rfl (inR_w32 _) D_Seating_gather_2.2.1.1 rfl ?_
          refine z_bH (fun h21 e22 => ?_)
          refine z_s I (s_iinc (pc' := 68) (lv' := [(2, vI (w32 (x2 + 1))), (0, vR ad o), (1, vR ad r1)]) (n := 2) rfl D_Seating_gather_2.2.1.2 (by decide) rfl rfl) ?_
          refine z_s I (s_goto (tgt := 7) D_Seating_gather_2.2.2.1 rfl) ?_
          refine z_s I (s_lv (lv' := [(0, vR ad o), (1, vR ad r1), (2, vI (w32 (x2 + 1)))]) [1, 2, 0] rfl) ?_
          exact z_end (fun g => hin1_1 _ g (inR_w32 _))
  have main : Z Y (m_Seating_gather o r1 h) G0 h 0 [(0, vR ad o), (1, vR ad r1)] [] := by
    unfold m_Seating_gather
    refine z_s I (s_aload_n (pc' := 1) 0 rfl D_Seating_gather_0.1.1.1.1 rfl rfl) ?_
    refine z_s I (s_iconst (pc' := 2) D_Seating_gather_0.1.1.1.2 rfl) ?_
    refine z_putI (pc' := 5) (jI := 0) I p_Seating_7 ao rfl rfl (b01.R bz0) D_Seating_gather_0.1.1.2.1 rfl ?_
    refine z_bH (fun h23 e24 => ?_)
    refine z_s I (s_iconst (pc' := 6) D_Seating_gather_0.1.1.2.2 rfl) ?_
    refine z_s I (s_istore_n (pc' := 7) (lv' := [(2, vI 0), (0, vR ad o), (1, vR ad r1)]) D_Seating_gather_0.1.2.1.1 rfl (by decide) rfl rfl) ?_
    refine z_s I (s_lv (lv' := [(0, vR ad o), (1, vR ad r1), (2, vI 0)]) [1, 2, 0] rfl) ?_
    exact L7 _ (b01.R bz0)
  exact main _ hF (by rw [hG0])
set_option maxHeartbeats 4000000 in
set_option maxRecDepth 20000 in
theorem c_Links_areSuspect {l : Launch} {τ : TP} {o : Int} {x1 : Int} {x2 : Int} {h : HP} {r : Int} (hw : wf τ) (ao : ok τ (4, 2) o) (ax1 : inR x1) (ax2 : inR x2) (hh : hr τ h) (hF : m_Links_areSuspect o x1 x2 h = some r) : Ctr l y_Links_areSuspect k_Links_areSuspect 3 (Option.some FieldType.boolean) 0 0 τ (fun ad => [vR ad o, vI x1, vI x2]) h (some (vI r)) h (b01 r) := by
  refine ctr_of (by decide) hw hh (fun ad => Nat.le_of_ble_eq_true rfl) (fun ad K Y I hK => ?_)
  obtain ⟨G0, hG0⟩ : ∃ G : Int → Prop, G = fun x => x = r := ⟨_, rfl⟩
  have gk0 : ∀ (x : Int), G0 x → b01 x → K (some (vI x)) h := fun x g q => by
    rw [hG0] at g
    cases g
    exact hK q
  have main : Z Y (m_Links_areSuspect o x1 x2 h) G0 h 0 [(0, vR ad o), (1, vI x1), (2, vI x2)] [] := by
    unfold m_Links_areSuspect
    refine z_s I (s_aload_n (pc' := 1) 0 rfl D_Links_areSuspect_0.1.1.1 rfl rfl) ?_
    refine z_getR (pc' := 4) (eI := o + 1) I g_Links_9 ao rfl (by omega) D_Links_areSuspect_0.1.1.2.1 rfl ?_
    have k1 : ok τ (0, 8) (o + 1) := r_Links_suspectWith hw ao (by omega)
    refine z_s I (s_iload_n (pc' := 5) 1 rfl D_Links_areSuspect_0.1.1.2.2 rfl rfl) ?_
    refine z_iald (pc' := 6) (nI := 8) I k1 ax1 rfl D_Links_areSuspect_0.1.2.1 rfl (fun c2 f3 => ?_)
    refine z_s I (s_iload_n (pc' := 7) 2 rfl D_Links_areSuspect_0.1.2.2.1 rfl rfl) ?_
    refine z_s I (s_ishr (pc' := 8) D_Links_areSuspect_0.1.2.2.2 rfl) ?_
    refine z_s I (s_iconst (pc' := 9) D_Links_areSuspect_0.2.1.1 rfl) ?_
    refine z_s I (s_iand (pc' := 10) D_Links_areSuspect_0.2.1.2.1 rfl) ?_
    refine z_if_eq (tgt := 17) (pc' := 13) I (r_iAnd _ _) D_Links_areSuspect_0.2.1.2.2 rfl rfl (fun c4 => ?_) (fun c4 => ?_)
    · refine z_s I (s_iconst (pc' := 18) D_Links_areSuspect_0.2.2.2.1 rfl) ?_
      exact z_ret (w := some (vI 0)) I (fun g => gk0 _ g bz0) ⟨_, bz0, rfl⟩ D_Links_areSuspect_0.2.2.2.2 rfl
    · refine z_s I (s_iconst (pc' := 14) D_Links_areSuspect_0.2.2.1.1 rfl) ?_
      refine z_s I (s_goto (tgt := 18) D_Links_areSuspect_0.2.2.1.2 rfl) ?_
      exact z_ret (w := some (vI 1)) I (fun g => gk0 _ g bz1) ⟨_, bz1, rfl⟩ D_Links_areSuspect_0.2.2.2.2 rfl
  exact main _ hF (by rw [hG0])
set_option maxHeartbeats 4000000 in
set_option maxRecDepth 20000 in
theorem c_Seating_relate {l : Launch} {τ : TP} {o : Int} {r1 : Int} {r2 : Int} {x3 : Int} {h : HP} {h' : HP} (hw : wf τ) (ao : ok τ (4, 6) o) (ar1 : ok τ (4, 1) r1) (ar2 : ok τ (4, 2) r2) (ax3 : inR x3) (hh : hr τ h) (hF : m_Seating_relate o r1 r2 x3 h = some h') : Ctr l y_Seating_relate k_Seating_relate 6 (Option.none : Option FieldType) 2 44 τ (fun ad => [vR ad o, vR ad r1, vR ad r2, vI x3]) h none h' (True) := by
  refine ctr_of (by decide) hw hh (fun ad => Nat.le_of_ble_eq_true rfl) (fun ad K Y I hK => ?_)
  obtain ⟨G0, hG0⟩ : ∃ G : HP → Prop, G = fun x => x = h' := ⟨_, rfl⟩
  have gk0 : ∀ (x : HP), G0 x → K none x := fun x g => by
    rw [hG0] at g
    cases g
    exact hK trivial
  have L3 : ∀ (s : Int × HP), (inR (s.1)) → Z Y (m_Seating_relate_L3 o r1 r2 x3 s) G0 (s.2) 3 [(0, vR ad o), (1, vR ad r1), (2, vR ad r2), (3, vI x3), (4, vI (s.1))] [] := by
    intro s hs
    refine z_loop (G := G0) (hO := fun s : Int × HP => s.2) (lO := fun s : Int × HP => [(0, vR ad o), (1, vR ad r1), (2, vR ad r2), (3, vI x3), (4, vI (s.1))]) (Φ := fun s : Int × HP => inR (s.1)) (fun G1 hin1_1 hout1 s hs => ?_) FUEL s hs
    obtain ⟨x4, h⟩ := s
    have ax4 := hs
    have gk1 := fun (x : HP) (g : G1 (.inr (x))) => gk0 x (hout1 _ g)
    have L31 : ∀ (x4 : Int) (ax4 : inR x4) (s : Int × HP), (inR (s.1)) → Z Y (m_Seating_relate_L31 o r1 r2 x3 x4 s) G1 (s.2) 31 [(0, vR ad o), (1, vR ad r1), (2, vR ad r2), (3, vI x3), (4, vI x4), (5, vI (s.1))] [] := by
      intro x4 ax4 s hs
      refine z_loop (G := G1) (hO := fun s : Int × HP => s.2) (lO := fun s : Int × HP => [(0, vR ad o), (1, vR ad r1), (2, vR ad r2), (3, vI x3), (4, vI x4), (5, vI (s.1))]) (Φ := fun s : Int × HP => inR (s.1)) (fun G2 hin2_2 hout2 s hs => ?_) FUEL s hs
      obtain ⟨x5, h⟩ := s
      have ax5 := hs
      have hin1_2 := fun (s' : Int × HP) (g : G2 (.inr (.inl s'))) => hin1_1 s' (hout2 _ g)
      have gk2 := fun (x : HP) (g : G2 (.inr (.inr (x)))) => gk1 x (hout2 _ g)
      have J83 : ∀ (x5 : Int) (ax5 : inR x5) (h : HP), Z Y (m_Seating_relate_J83 o r1 r2 x3 x4 x5 h) G2 h 83 [(0, vR ad o), (1, vR ad r1), (2, vR ad r2), (3, vI x3), (4, vI x4), (5, vI x5)] [] := by
        intro x5 ax5 h
        unfold m_Seating_relate_J83
        refine z_s I (s_iload (pc' := 85) 5 rfl D_Seating_relate_2.2.2.2.2 rfl) ?_
        refine z_s I (s_iload (pc' := 87) 4 rfl D_Seating_relate_3.1.1.1.1 rfl) ?_
        refine z_icmp_eq (tgt := 125) (pc' := 90) I ax5 ax4 D_Seating_relate_3.1.1.1.2 rfl rfl (fun c1 => ?_) (fun c1 => ?_)
        · refine z_s I (s_iinc (pc' := 128) (lv' := [(5, vI (w32 (x5 + 1))), (0, vR ad o), (1, vR ad r1), (2, vR ad r2), (3, vI x3), (4, vI x4)]) (n := 5) rfl D_Seating_relate_4.2.1.2.1 (by decide) rfl rfl) ?_
          refine z_s I (s_goto (tgt := 31) D_Seating_relate_4.2.1.2.2 rfl) ?_
          refine z_s I (s_lv (lv' := [(0, vR ad o), (1, vR ad r1), (2, vR ad r2), (3, vI x3), (4, vI x4), (5, vI (w32 (x5 + 1)))]) [1, 2, 3, 4, 5, 0] rfl) ?_
          exact z_end (fun g => hin2_2 _ g (inR_w32 _))
        · refine z_s I (s_aload_n (pc' := 91) 2 rfl D_Seating_relate_3.1.1.2.1 rfl rfl) ?_
          refine z_s I (s_aload_n (pc' := 92) 0 rfl D_Seating_relate_3.1.1.2.2 rfl rfl) ?_
          refine z_getR (pc' := 95) (eI := o + 1) I g_Seating_13 ao rfl (by omega) D_Seating_relate_3.1.2.1.1 rfl ?_
          have k2 : ok τ (0, 6) (o + 1) := r_Seating_who hw ao (by omega)
          refine z_s I (s_iload (pc' := 97) 4 rfl D_Seating_relate_3.1.2.1.2 rfl) ?_
          refine z_iald (pc' := 98) (nI := 6) I k2 ax4 rfl D_Seating_relate_3.1.2.2.1 rfl (fun c3 f4 => ?_)
          refine z_s I (s_aload_n (pc' := 99) 0 rfl D_Seating_relate_3.1.2.2.2 rfl rfl) ?_
          refine z_getR (pc' := 102) (eI := o + 1) I g_Seating_13 ao rfl (by omega) D_Seating_relate_3.2.1.1.1 rfl ?_
          have k5 : ok τ (0, 6) (o + 1) := r_Seating_who hw ao (by omega)
          refine z_s I (s_iload (pc' := 104) 5 rfl D_Seating_relate_3.2.1.1.2 rfl) ?_
          refine z_iald (pc' := 105) (nI := 6) I k5 ax5 rfl D_Seating_relate_3.2.1.2.1 rfl (fun c6 f7 => ?_)
          refine z_b1 (fun r10 q9 => ?_)
          refine z_callV (pc' := 108) I mv_Links_areSuspect ml_Seating_61 (fun ad => [vI (h (o + 1) x4), vI (h (o + 1) x5)]) ⟨Nat.le_of_ble_eq_true rfl, Nat.le_of_ble_eq_true rfl⟩ ar2 (fun hh => c_Links_areSuspect hw ar2 f4 f7 hh q9) rfl rfl (Nat.le_of_ble_eq_true rfl) D_Seating_relate_3.2.1.2.2 rfl (fun f8 => ?_)
          refine z_if_eq (tgt := 125) (pc' := 111) I (b01.R f8) D_Seating_relate_3.2.2.1.1 rfl rfl (fun c11 => ?_) (fun c11 => ?_)
          · refine z_s I (s_iinc (pc' := 128) (lv' := [(5, vI (w32 (x5 + 1))), (0, vR ad o), (1, vR ad r1), (2, vR ad r2), (3, vI x3), (4, vI x4)]) (n := 5) rfl D_Seating_relate_4.2.1.2.1 (by decide) rfl rfl) ?_
            refine z_s I (s_goto (tgt := 31) D_Seating_relate_4.2.1.2.2 rfl) ?_
            refine z_s I (s_lv (lv' := [(0, vR ad o), (1, vR ad r1), (2, vR ad r2), (3, vI x3), (4, vI x4), (5, vI (w32 (x5 + 1)))]) [1, 2, 3, 4, 5, 0] rfl) ?_
            exact z_end (fun g => hin2_2 _ g (inR_w32 _))
          · refine z_s I (s_aload_n (pc' := 112) 0 rfl D_Seating_relate_3.2.2.1.2 rfl rfl) ?_
            refine z_getR (pc' := 115) (eI := o + 4) I g_Seating_23 ao rfl (by omega) D_Seating_relate_3.2.2.2.1 rfl ?_
            have k12 : ok τ (0, 6) (o + 4) := r_Seating_suspectWith hw ao (by omega)
            refine z_s I (s_iload (pc' := 117) 4 rfl D_Seating_relate_3.2.2.2.2 rfl) ?_
            refine z_s I (s_dup2 (pc' := 118) rfl rfl D_Seating_relate_4.1.1.1 rfl) ?_
            refine z_iald (pc' := 119) (nI := 6) I k12 ax4 rfl D_Seating_relate_4.1.1.2.1 rfl (fun c13 f14 => ?_)
            refine z_s I (s_iconst (pc' := 120) D_Seating_relate_4.1.1.2.2 rfl) ?_
            refine z_s I (s_iload (pc' := 122) 5 rfl D_Seating_relate_4.1.2.1 rfl) ?_
            refine z_s I (s_ishl (pc' := 123) D_Seating_relate_4.1.2.2.1 rfl) ?_
            refine z_s I (s_ior (pc' := 124) D_Seating_relate_4.1.2.2.2 rfl) ?_
            refine z_iast (pc' := 125) (nI := 6) I k12 ax4 (r_iOr _ _) rfl D_Seating_relate_4.2.1.1 rfl (fun c15 => ?_)
            refine z_bH (fun h16 e17 => ?_)
            refine z_s I (s_iinc (pc' := 128) (lv' := [(5, vI (w32 (x5 + 1))), (0, vR ad o), (1, vR ad r1), (2, vR ad r2), (3, vI x3), (4, vI x4)]) (n := 5) rfl D_Seating_relate_4.2.1.2.1 (by decide) rfl rfl) ?_
            refine z_s I (s_goto (tgt := 31) D_Seating_relate_4.2.1.2.2 rfl) ?_
            refine z_s I (s_lv (lv' := [(0, vR ad o), (1, vR ad r1), (2, vR ad r2), (3, vI x3), (4, vI x4), (5, vI (w32 (x5 + 1)))]) [1, 2, 3, 4, 5, 0] rfl) ?_
            exact z_end (fun g => hin2_2 _ g (inR_w32 _))
      show Z Y (m_Seating_relate_L31b o r1 r2 x3 x4 x5 h) G2 h 31 [(0, vR ad o), (1, vR ad r1), (2, vR ad r2), (3, vI x3), (4, vI x4), (5, vI x5)] []
      unfold m_Seating_relate_L31b
      refine z_s I (s_iload (pc' := 33) 5 rfl D_Seating_relate_1.1.1.2.1 rfl) ?_
      refine z_s I (s_aload_n (pc' := 34) 0 rfl D_Seating_relate_1.1.1.2.2 rfl rfl) ?_
      refine z_getI (pc' := 37) (jI := 0) I g_Seating_7 ao rfl rfl D_Seating_relate_1.1.2.1.1 rfl (fun f18 => ?_)
      refine z_icmp_ge (tgt := 131) (pc' := 40) I ax5 f18 D_Seating_relate_1.1.2.1.2 rfl rfl (fun c19 => ?_) (fun c19 => ?_)
      · refine z_s I (s_iinc (pc' := 134) (lv' := [(4, vI (w32 (x4 + 1))), (0, vR ad o), (1, vR ad r1), (2, vR ad r2), (3, vI x3), (5, vI x5)]) (n := 4) rfl D_Seating_relate_4.2.2.1 (by decide) rfl rfl) ?_
        refine z_s I (s_goto (tgt := 3) D_Seating_relate_4.2.2.2.1 rfl) ?_
        refine z_s I (s_lv (lv' := [(0, vR ad o), (1, vR ad r1), (2, vR ad r2), (3, vI x3), (4, vI (w32 (x4 + 1)))]) [1, 2, 3, 4, 0] rfl) ?_
        exact z_end (fun g => hin1_2 _ g (inR_w32 _))
      · refine z_s I (s_iload (pc' := 42) 5 rfl D_Seating_relate_1.1.2.2.1 rfl) ?_
        refine z_s I (s_iload (pc' := 44) 4 rfl D_Seating_relate_1.1.2.2.2 rfl) ?_
        refine z_icmp_eq (tgt := 83) (pc' := 47) I ax5 ax4 D_Seating_relate_1.2.1.1.1 rfl rfl (fun c20 => ?_) (fun c20 => ?_)
        · exact J83 _ ax5 _
        · refine z_s I (s_aload_n (pc' := 48) 1 rfl D_Seating_relate_1.2.1.1.2 rfl rfl) ?_
          refine z_s I (s_aload_n (pc' := 49) 0 rfl D_Seating_relate_1.2.1.2.1 rfl rfl) ?_
          refine z_getR (pc' := 52) (eI := o + 1) I g_Seating_13 ao rfl (by omega) D_Seating_relate_1.2.1.2.2 rfl ?_
          have k21 : ok τ (0, 6) (o + 1) := r_Seating_who hw ao (by omega)
          refine z_s I (s_iload (pc' := 54) 4 rfl D_Seating_relate_1.2.2.1.1 rfl) ?_
          refine z_iald (pc' := 55) (nI := 6) I k21 ax4 rfl D_Seating_relate_1.2.2.1.2 rfl (fun c22 f23 => ?_)
          refine z_s I (s_aload_n (pc' := 56) 0 rfl D_Seating_relate_1.2.2.2.1 rfl rfl) ?_
          refine z_getR (pc' := 59) (eI := o + 1) I g_Seating_13 ao rfl (by omega) D_Seating_relate_1.2.2.2.2 rfl ?_
          have k24 : ok τ (0, 6) (o + 1) := r_Seating_who hw ao (by omega)
          refine z_s I (s_iload (pc' := 61) 5 rfl D_Seating_relate_2.1.1.1.1 rfl) ?_
          refine z_iald (pc' := 62) (nI := 6) I k24 ax5 rfl D_Seating_relate_2.1.1.1.2 rfl (fun c25 f26 => ?_)
          refine z_s I (s_iload_n (pc' := 63) 3 rfl D_Seating_relate_2.1.1.2.1 rfl rfl) ?_
          refine z_b1 (fun r29 q28 => ?_)
          refine z_callV (pc' := 66) I mv_Exam_near ml_Seating_57 (fun ad => [vI (h (o + 1) x4), vI (h (o + 1) x5), vI x3]) ⟨Nat.le_of_ble_eq_true rfl, Nat.le_of_ble_eq_true rfl⟩ ar1 (fun hh => c_Exam_near hw ar1 f23 f26 ax3 hh q28) rfl rfl (Nat.le_of_ble_eq_true rfl) D_Seating_relate_2.1.1.2.2 rfl (fun f27 => ?_)
          refine z_if_eq (tgt := 83) (pc' := 69) I (b01.R f27) D_Seating_relate_2.1.2.1.1 rfl rfl (fun c30 => ?_) (fun c30 => ?_)
          · exact J83 _ ax5 _
          · refine z_s I (s_aload_n (pc' := 70) 0 rfl D_Seating_relate_2.1.2.1.2 rfl rfl) ?_
            refine z_getR (pc' := 73) (eI := o + 3) I g_Seating_20 ao rfl (by omega) D_Seating_relate_2.1.2.2.1 rfl ?_
            have k31 : ok τ (0, 6) (o + 3) := r_Seating_nearTo hw ao (by omega)
            refine z_s I (s_iload (pc' := 75) 4 rfl D_Seating_relate_2.1.2.2.2 rfl) ?_
            refine z_s I (s_dup2 (pc' := 76) rfl rfl D_Seating_relate_2.2.1.1.1 rfl) ?_
            refine z_iald (pc' := 77) (nI := 6) I k31 ax4 rfl D_Seating_relate_2.2.1.1.2 rfl (fun c32 f33 => ?_)
            refine z_s I (s_iconst (pc' := 78) D_Seating_relate_2.2.1.2.1 rfl) ?_
            refine z_s I (s_iload (pc' := 80) 5 rfl D_Seating_relate_2.2.1.2.2 rfl) ?_
            refine z_s I (s_ishl (pc' := 81) D_Seating_relate_2.2.2.1.1 rfl) ?_
            refine z_s I (s_ior (pc' := 82) D_Seating_relate_2.2.2.1.2 rfl) ?_
            refine z_iast (pc' := 83) (nI := 6) I k31 ax4 (r_iOr _ _) rfl D_Seating_relate_2.2.2.2.1 rfl (fun c34 => ?_)
            refine z_bH (fun h35 e36 => ?_)
            exact J83 _ ax5 _
    show Z Y (m_Seating_relate_L3b o r1 r2 x3 x4 h) G1 h 3 [(0, vR ad o), (1, vR ad r1), (2, vR ad r2), (3, vI x3), (4, vI x4)] []
    unfold m_Seating_relate_L3b
    refine z_s I (s_iload (pc' := 5) 4 rfl D_Seating_relate_0.1.1.2.1 rfl) ?_
    refine z_s I (s_aload_n (pc' := 6) 0 rfl D_Seating_relate_0.1.1.2.2 rfl rfl) ?_
    refine z_getI (pc' := 9) (jI := 0) I g_Seating_7 ao rfl rfl D_Seating_relate_0.1.2.1.1 rfl (fun f37 => ?_)
    refine z_icmp_ge (tgt := 137) (pc' := 12) I ax4 f37 D_Seating_relate_0.1.2.1.2 rfl rfl (fun c38 => ?_) (fun c38 => ?_)
    · exact z_ret (w := none) I (fun g => gk1 _ g) rfl D_Seating_relate_4.2.2.2.2 rfl
    · refine z_s I (s_aload_n (pc' := 13) 0 rfl D_Seating_relate_0.1.2.2.1 rfl rfl) ?_
      refine z_getR (pc' := 16) (eI := o + 3) I g_Seating_20 ao rfl (by omega) D_Seating_relate_0.1.2.2.2 rfl ?_
      have k39 : ok τ (0, 6) (o + 3) := r_Seating_nearTo hw ao (by omega)
      refine z_s I (s_iload (pc' := 18) 4 rfl D_Seating_relate_0.2.1.1.1 rfl) ?_
      refine z_s I (s_iconst (pc' := 19) D_Seating_relate_0.2.1.1.2 rfl) ?_
      refine z_iast (pc' := 20) (nI := 6) I k39 ax4 (b01.R bz0) rfl D_Seating_relate_0.2.1.2.1 rfl (fun c40 => ?_)
      refine z_bH (fun h41 e42 => ?_)
      refine z_s I (s_aload_n (pc' := 21) 0 rfl D_Seating_relate_0.2.1.2.2 rfl rfl) ?_
      refine z_getR (pc' := 24) (eI := o + 4) I g_Seating_23 ao rfl (by omega) D_Seating_relate_0.2.2.1.1 rfl ?_
      have k43 : ok τ (0, 6) (o + 4) := r_Seating_suspectWith hw ao (by omega)
      refine z_s I (s_iload (pc' := 26) 4 rfl D_Seating_relate_0.2.2.1.2 rfl) ?_
      refine z_s I (s_iconst (pc' := 27) D_Seating_relate_0.2.2.2.1 rfl) ?_
      refine z_iast (pc' := 28) (nI := 6) I k43 ax4 (b01.R bz0) rfl D_Seating_relate_0.2.2.2.2 rfl (fun c44 => ?_)
      refine z_bH (fun h45 e46 => ?_)
      refine z_s I (s_iconst (pc' := 29) D_Seating_relate_1.1.1.1.1 rfl) ?_
      refine z_s I (s_istore (pc' := 31) (lv' := [(5, vI 0), (0, vR ad o), (1, vR ad r1), (2, vR ad r2), (3, vI x3), (4, vI x4)]) D_Seating_relate_1.1.1.1.2 (by decide) rfl rfl) ?_
      refine z_s I (s_lv (lv' := [(0, vR ad o), (1, vR ad r1), (2, vR ad r2), (3, vI x3), (4, vI x4), (5, vI 0)]) [1, 2, 3, 4, 5, 0] rfl) ?_
      exact L31 _ ax4 _ (b01.R bz0)
  have main : Z Y (m_Seating_relate o r1 r2 x3 h) G0 h 0 [(0, vR ad o), (1, vR ad r1), (2, vR ad r2), (3, vI x3)] [] := by
    unfold m_Seating_relate
    refine z_s I (s_iconst (pc' := 1) D_Seating_relate_0.1.1.1.1 rfl) ?_
    refine z_s I (s_istore (pc' := 3) (lv' := [(4, vI 0), (0, vR ad o), (1, vR ad r1), (2, vR ad r2), (3, vI x3)]) D_Seating_relate_0.1.1.1.2 (by decide) rfl rfl) ?_
    refine z_s I (s_lv (lv' := [(0, vR ad o), (1, vR ad r1), (2, vR ad r2), (3, vI x3), (4, vI 0)]) [1, 2, 3, 4, 0] rfl) ?_
    exact L3 _ (b01.R bz0)
  exact main _ hF (by rw [hG0])
set_option maxHeartbeats 4000000 in
set_option maxRecDepth 20000 in
theorem c_Seating_nearSuspects {l : Launch} {τ : TP} {o : Int} {h : HP} {r : Int} (hw : wf τ) (ao : ok τ (4, 6) o) (hh : hr τ h) (hF : m_Seating_nearSuspects o h = some r) : Ctr l y_Seating_nearSuspects k_Seating_nearSuspects 4 (Option.some FieldType.int) 0 0 τ (fun ad => [vR ad o]) h (some (vI r)) h (inR r) := by
  refine ctr_of (by decide) hw hh (fun ad => Nat.le_of_ble_eq_true rfl) (fun ad K Y I hK => ?_)
  obtain ⟨G0, hG0⟩ : ∃ G : Int → Prop, G = fun x => x = r := ⟨_, rfl⟩
  have gk0 : ∀ (x : Int), G0 x → inR x → K (some (vI x)) h := fun x g q => by
    rw [hG0] at g
    cases g
    exact hK q
  have L4 : ∀ (s : Int × Int), (inR (s.1) ∧ inR (s.2)) → Z Y (m_Seating_nearSuspects_L4 o h s) G0 h 4 [(0, vR ad o), (1, vI (s.1)), (2, vI (s.2))] [] := by
    intro s hs
    refine z_loop (G := G0) (hO := fun s : Int × Int => h) (lO := fun s : Int × Int => [(0, vR ad o), (1, vI (s.1)), (2, vI (s.2))]) (Φ := fun s : Int × Int => inR (s.1) ∧ inR (s.2)) (fun G1 hin1_1 hout1 s hs => ?_) FUEL s hs
    obtain ⟨x1, x2⟩ := s
    obtain ⟨ax1, ax2⟩ := hs
    have gk1 := fun (x : Int) (g : G1 (.inr (x))) (q : inR x) => gk0 x (hout1 _ g) q
    have L16 : ∀ (x2 : Int) (ax2 : inR x2) (s : Int × Int), (inR (s.1) ∧ inR (s.2)) → Z Y (m_Seating_nearSuspects_L16 o x2 h s) G1 h 16 [(0, vR ad o), (2, vI x2), (1, vI (s.1)), (3, vI (s.2))] [] := by
      intro x2 ax2 s hs
      refine z_loop (G := G1) (hO := fun s : Int × Int => h) (lO := fun s : Int × Int => [(0, vR ad o), (2, vI x2), (1, vI (s.1)), (3, vI (s.2))]) (Φ := fun s : Int × Int => inR (s.1) ∧ inR (s.2)) (fun G2 hin2_2 hout2 s hs => ?_) FUEL s hs
      obtain ⟨x1, x3⟩ := s
      obtain ⟨ax1, ax3⟩ := hs
      have hin1_2 := fun (s' : Int × Int) (g : G2 (.inr (.inl s'))) => hin1_1 s' (hout2 _ g)
      have gk2 := fun (x : Int) (g : G2 (.inr (.inr (x)))) (q : inR x) => gk1 x (hout2 _ g) q
      show Z Y (m_Seating_nearSuspects_L16b o x2 h x1 x3) G2 h 16 [(0, vR ad o), (2, vI x2), (1, vI x1), (3, vI x3)] []
      unfold m_Seating_nearSuspects_L16b
      refine z_s I (s_iload_n (pc' := 17) 3 rfl D_Seating_nearSuspects_0.2.2.1.1 rfl rfl) ?_
      refine z_s I (s_aload_n (pc' := 18) 0 rfl D_Seating_nearSuspects_0.2.2.1.2 rfl rfl) ?_
      refine z_getI (pc' := 21) (jI := 0) I g_Seating_7 ao rfl rfl D_Seating_nearSuspects_0.2.2.2.1 rfl (fun f1 => ?_)
      refine z_icmp_ge (tgt := 69) (pc' := 24) I ax3 f1 D_Seating_nearSuspects_0.2.2.2.2 rfl rfl (fun c2 => ?_) (fun c2 => ?_)
      · refine z_s I (s_iinc (pc' := 72) (lv' := [(2, vI (w32 (x2 + 1))), (0, vR ad o), (1, vI x1), (3, vI x3)]) (n := 1) rfl D_Seating_nearSuspects_2.2.2.1.1 (by decide) rfl rfl) ?_
        refine z_s I (s_goto (tgt := 4) D_Seating_nearSuspects_2.2.2.1.2 rfl) ?_
        refine z_s I (s_lv (lv' := [(0, vR ad o), (1, vI x1), (2, vI (w32 (x2 + 1)))]) [1, 2, 0] rfl) ?_
        exact z_end (fun g => hin1_2 _ g ⟨ax1, (inR_w32 _)⟩)
      · refine z_s I (s_aload_n (pc' := 25) 0 rfl D_Seating_nearSuspects_1.1.1.1.1 rfl rfl) ?_
        refine z_getR (pc' := 28) (eI := o + 4) I g_Seating_23 ao rfl (by omega) D_Seating_nearSuspects_1.1.1.1.2 rfl ?_
        have k3 : ok τ (0, 6) (o + 4) := r_Seating_suspectWith hw ao (by omega)
        refine z_s I (s_iload_n (pc' := 29) 1 rfl D_Seating_nearSuspects_1.1.1.2.1 rfl rfl) ?_
        refine z_iald (pc' := 30) (nI := 6) I k3 ax2 rfl D_Seating_nearSuspects_1.1.1.2.2 rfl (fun c4 f5 => ?_)
        refine z_s I (s_iload_n (pc' := 31) 3 rfl D_Seating_nearSuspects_1.1.2.1.1 rfl rfl) ?_
        refine z_s I (s_ishr (pc' := 32) D_Seating_nearSuspects_1.1.2.1.2 rfl) ?_
        refine z_s I (s_iconst (pc' := 33) D_Seating_nearSuspects_1.1.2.2.1 rfl) ?_
        refine z_s I (s_iand (pc' := 34) D_Seating_nearSuspects_1.1.2.2.2 rfl) ?_
        refine z_if_eq (tgt := 63) (pc' := 37) I (r_iAnd _ _) D_Seating_nearSuspects_1.2.1.1.1 rfl rfl (fun c6 => ?_) (fun c6 => ?_)
        · refine z_s I (s_iinc (pc' := 66) (lv' := [(3, vI (w32 (x3 + 1))), (0, vR ad o), (2, vI x2), (1, vI x1)]) (n := 3) rfl D_Seating_nearSuspects_2.2.1.2.1 (by decide) rfl rfl) ?_
          refine z_s I (s_goto (tgt := 16) D_Seating_nearSuspects_2.2.1.2.2 rfl) ?_
          refine z_s I (s_lv (lv' := [(0, vR ad o), (2, vI x2), (1, vI x1), (3, vI (w32 (x3 + 1)))]) [1, 2, 3, 0] rfl) ?_
          exact z_end (fun g => hin2_2 _ g ⟨ax1, (inR_w32 _)⟩)
        · refine z_s I (s_aload_n (pc' := 38) 0 rfl D_Seating_nearSuspects_1.2.1.1.2 rfl rfl) ?_
          refine z_getR (pc' := 41) (eI := o + 3) I g_Seating_20 ao rfl (by omega) D_Seating_nearSuspects_1.2.1.2.1 rfl ?_
          have k7 : ok τ (0, 6) (o + 3) := r_Seating_nearTo hw ao (by omega)
          refine z_s I (s_aload_n (pc' := 42) 0 rfl D_Seating_nearSuspects_1.2.1.2.2 rfl rfl) ?_
          refine z_getR (pc' := 45) (eI := o + 2) I g_Seating_17 ao rfl (by omega) D_Seating_nearSuspects_1.2.2.1.1 rfl ?_
          have k8 : ok τ (0, 6) (o + 2) := r_Seating_seatOf hw ao (by omega)
          refine z_s I (s_iload_n (pc' := 46) 1 rfl D_Seating_nearSuspects_1.2.2.1.2 rfl rfl) ?_
          refine z_iald (pc' := 47) (nI := 6) I k8 ax2 rfl D_Seating_nearSuspects_1.2.2.2.1 rfl (fun c9 f10 => ?_)
          refine z_iald (pc' := 48) (nI := 6) I k7 f10 rfl D_Seating_nearSuspects_1.2.2.2.2 rfl (fun c11 f12 => ?_)
          refine z_s I (s_aload_n (pc' := 49) 0 rfl D_Seating_nearSuspects_2.1.1.1 rfl rfl) ?_
          refine z_getR (pc' := 52) (eI := o + 2) I g_Seating_17 ao rfl (by omega) D_Seating_nearSuspects_2.1.1.2.1 rfl ?_
          have k13 : ok τ (0, 6) (o + 2) := r_Seating_seatOf hw ao (by omega)
          refine z_s I (s_iload_n (pc' := 53) 3 rfl D_Seating_nearSuspects_2.1.1.2.2 rfl rfl) ?_
          refine z_iald (pc' := 54) (nI := 6) I k13 ax3 rfl D_Seating_nearSuspects_2.1.2.1.1 rfl (fun c14 f15 => ?_)
          refine z_s I (s_ishr (pc' := 55) D_Seating_nearSuspects_2.1.2.1.2 rfl) ?_
          refine z_s I (s_iconst (pc' := 56) D_Seating_nearSuspects_2.1.2.2.1 rfl) ?_
          refine z_s I (s_iand (pc' := 57) D_Seating_nearSuspects_2.1.2.2.2 rfl) ?_
          refine z_if_eq (tgt := 63) (pc' := 60) I (r_iAnd _ _) D_Seating_nearSuspects_2.2.1.1.1 rfl rfl (fun c16 => ?_) (fun c16 => ?_)
          · refine z_s I (s_iinc (pc' := 66) (lv' := [(3, vI (w32 (x3 + 1))), (0, vR ad o), (2, vI x2), (1, vI x1)]) (n := 3) rfl D_Seating_nearSuspects_2.2.1.2.1 (by decide) rfl rfl) ?_
            refine z_s I (s_goto (tgt := 16) D_Seating_nearSuspects_2.2.1.2.2 rfl) ?_
            refine z_s I (s_lv (lv' := [(0, vR ad o), (2, vI x2), (1, vI x1), (3, vI (w32 (x3 + 1)))]) [1, 2, 3, 0] rfl) ?_
            exact z_end (fun g => hin2_2 _ g ⟨ax1, (inR_w32 _)⟩)
          · refine z_s I (s_iinc (pc' := 63) (lv' := [(1, vI (w32 (x1 + 1))), (0, vR ad o), (2, vI x2), (3, vI x3)]) (n := 2) rfl D_Seating_nearSuspects_2.2.1.1.2 (by decide) rfl rfl) ?_
            refine z_s I (s_iinc (pc' := 66) (lv' := [(3, vI (w32 (x3 + 1))), (1, vI (w32 (x1 + 1))), (0, vR ad o), (2, vI x2)]) (n := 3) rfl D_Seating_nearSuspects_2.2.1.2.1 (by decide) rfl rfl) ?_
            refine z_s I (s_goto (tgt := 16) D_Seating_nearSuspects_2.2.1.2.2 rfl) ?_
            refine z_s I (s_lv (lv' := [(0, vR ad o), (2, vI x2), (1, vI (w32 (x1 + 1))), (3, vI (w32 (x3 + 1)))]) [2, 3, 1, 0] rfl) ?_
            exact z_end (fun g => hin2_2 _ g ⟨(inR_w32 _), (inR_w32 _)⟩)
    show Z Y (m_Seating_nearSuspects_L4b o h x1 x2) G1 h 4 [(0, vR ad o), (1, vI x1), (2, vI x2)] []
    unfold m_Seating_nearSuspects_L4b
    refine z_s I (s_iload_n (pc' := 5) 2 rfl D_Seating_nearSuspects_0.1.2.1.1 rfl rfl) ?_
    refine z_s I (s_aload_n (pc' := 6) 0 rfl D_Seating_nearSuspects_0.1.2.1.2 rfl rfl) ?_
    refine z_getI (pc' := 9) (jI := 0) I g_Seating_7 ao rfl rfl D_Seating_nearSuspects_0.1.2.2.1 rfl (fun f17 => ?_)
    refine z_icmp_ge (tgt := 75) (pc' := 12) I ax2 f17 D_Seating_nearSuspects_0.1.2.2.2 rfl rfl (fun c18 => ?_) (fun c18 => ?_)
    · refine z_s I (s_iload_n (pc' := 76) 1 rfl D_Seating_nearSuspects_2.2.2.2.1 rfl rfl) ?_
      exact z_ret (w := some (vI x1)) I (fun g => gk1 _ g ax1) ⟨_, rfl⟩ D_Seating_nearSuspects_2.2.2.2.2 rfl
    · refine z_s I (s_iload_n (pc' := 13) 2 rfl D_Seating_nearSuspects_0.2.1.1.1 rfl rfl) ?_
      refine z_s I (s_iconst (pc' := 14) D_Seating_nearSuspects_0.2.1.1.2 rfl) ?_
      refine z_s I (s_iadd (pc' := 15) D_Seating_nearSuspects_0.2.1.2.1 rfl) ?_
      refine z_bI (inR_w32 _) (fun v19 e20 f21 => ?_)
      refine z_s I (s_istore_n (pc' := 16) (lv' := [(3, vI v19), (0, vR ad o), (1, vI x1), (2, vI x2)]) D_Seating_nearSuspects_0.2.1.2.2 rfl (by decide) rfl rfl) ?_
      refine z_s I (s_lv (lv' := [(0, vR ad o), (2, vI x2), (1, vI x1), (3, vI v19)]) [1, 3, 2, 0] rfl) ?_
      exact L16 _ ax2 _ ⟨ax1, f21⟩
  have main : Z Y (m_Seating_nearSuspects o h) G0 h 0 [(0, vR ad o)] [] := by
    unfold m_Seating_nearSuspects
    refine z_s I (s_iconst (pc' := 1) D_Seating_nearSuspects_0.1.1.1.1 rfl) ?_
    refine z_s I (s_istore_n (pc' := 2) (lv' := [(1, vI 0), (0, vR ad o)]) D_Seating_nearSuspects_0.1.1.1.2 rfl (by decide) rfl rfl) ?_
    refine z_s I (s_iconst (pc' := 3) D_Seating_nearSuspects_0.1.1.2.1 rfl) ?_
    refine z_s I (s_istore_n (pc' := 4) (lv' := [(2, vI 0), (1, vI 0), (0, vR ad o)]) D_Seating_nearSuspects_0.1.1.2.2 rfl (by decide) rfl rfl) ?_
    refine z_s I (s_lv (lv' := [(0, vR ad o), (1, vI 0), (2, vI 0)]) [2, 1, 0] rfl) ?_
    exact L4 _ ⟨(b01.R bz0), (b01.R bz0)⟩
  exact main _ hF (by rw [hG0])
set_option maxHeartbeats 4000000 in
set_option maxRecDepth 20000 in
theorem c_Seating_swap {l : Launch} {τ : TP} {o : Int} {x1 : Int} {x2 : Int} {h : HP} {h' : HP} (hw : wf τ) (ao : ok τ (4, 6) o) (ax1 : inR x1) (ax2 : inR x2) (hh : hr τ h) (hF : m_Seating_swap o x1 x2 h = some h') : Ctr l y_Seating_swap k_Seating_swap 4 (Option.none : Option FieldType) 0 0 τ (fun ad => [vR ad o, vI x1, vI x2]) h none h' (True) := by
  refine ctr_of (by decide) hw hh (fun ad => Nat.le_of_ble_eq_true rfl) (fun ad K Y I hK => ?_)
  obtain ⟨G0, hG0⟩ : ∃ G : HP → Prop, G = fun x => x = h' := ⟨_, rfl⟩
  have gk0 : ∀ (x : HP), G0 x → K none x := fun x g => by
    rw [hG0] at g
    cases g
    exact hK trivial
  have main : Z Y (m_Seating_swap o x1 x2 h) G0 h 0 [(0, vR ad o), (1, vI x1), (2, vI x2)] [] := by
    unfold m_Seating_swap
    refine z_s I (s_aload_n (pc' := 1) 0 rfl D_Seating_swap_0.1.1.1.1 rfl rfl) ?_
    refine z_getR (pc' := 4) (eI := o + 2) I g_Seating_17 ao rfl (by omega) D_Seating_swap_0.1.1.1.2 rfl ?_
    have k1 : ok τ (0, 6) (o + 2) := r_Seating_seatOf hw ao (by omega)
    refine z_s I (s_iload_n (pc' := 5) 1 rfl D_Seating_swap_0.1.1.2.1 rfl rfl) ?_
    refine z_iald (pc' := 6) (nI := 6) I k1 ax1 rfl D_Seating_swap_0.1.1.2.2 rfl (fun c2 f3 => ?_)
    refine z_bI f3 (fun v4 e5 f6 => ?_)
    refine z_s I (s_istore_n (pc' := 7) (lv' := [(3, vI v4), (0, vR ad o), (1, vI x1), (2, vI x2)]) D_Seating_swap_0.1.2.1.1 rfl (by decide) rfl rfl) ?_
    refine z_s I (s_aload_n (pc' := 8) 1 rfl D_Seating_swap_0.1.2.1.2 rfl rfl) ?_
    refine z_getR (pc' := 11) (eI := o + 2) I g_Seating_17 ao rfl (by omega) D_Seating_swap_0.1.2.2.1 rfl ?_
    have k7 : ok τ (0, 6) (o + 2) := r_Seating_seatOf hw ao (by omega)
    refine z_s I (s_iload_n (pc' := 12) 2 rfl D_Seating_swap_0.1.2.2.2 rfl rfl) ?_
    refine z_s I (s_aload_n (pc' := 13) 1 rfl D_Seating_swap_0.2.1.1.1 rfl rfl) ?_
    refine z_getR (pc' := 16) (eI := o + 2) I g_Seating_17 ao rfl (by omega) D_Seating_swap_0.2.1.1.2 rfl ?_
    have k8 : ok τ (0, 6) (o + 2) := r_Seating_seatOf hw ao (by omega)
    refine z_s I (s_iload_n (pc' := 17) 3 rfl D_Seating_swap_0.2.1.2.1 rfl rfl) ?_
    refine z_iald (pc' := 18) (nI := 6) I k8 ax2 rfl D_Seating_swap_0.2.1.2.2 rfl (fun c9 f10 => ?_)
    refine z_iast (pc' := 19) (nI := 6) I k7 ax1 f10 rfl D_Seating_swap_0.2.2.1.1 rfl (fun c11 => ?_)
    refine z_bH (fun h12 e13 => ?_)
    refine z_s I (s_aload_n (pc' := 20) 1 rfl D_Seating_swap_0.2.2.1.2 rfl rfl) ?_
    refine z_getR (pc' := 23) (eI := o + 2) I g_Seating_17 ao rfl (by omega) D_Seating_swap_0.2.2.2.1 rfl ?_
    have k14 : ok τ (0, 6) (o + 2) := r_Seating_seatOf hw ao (by omega)
    refine z_s I (s_iload_n (pc' := 24) 3 rfl D_Seating_swap_0.2.2.2.2 rfl rfl) ?_
    refine z_s I (s_iload_n (pc' := 25) 0 rfl D_Seating_swap_1.1 rfl rfl) ?_
    refine z_iast (pc' := 26) (nI := 6) I k14 ax2 f6 rfl D_Seating_swap_1.2.1 rfl (fun c15 => ?_)
    refine z_bH (fun h16 e17 => ?_)
    exact z_ret (w := none) I (fun g => gk0 _ g) rfl D_Seating_swap_1.2.2 rfl
  exact main _ hF (by rw [hG0])
set_option maxHeartbeats 4000000 in
set_option maxRecDepth 20000 in
theorem c_Seating_nextWay {l : Launch} {τ : TP} {o : Int} {h : HP} {r : Int} {h' : HP} (hw : wf τ) (ao : ok τ (4, 6) o) (hh : hr τ h) (hF : m_Seating_nextWay o h = some (r, h')) : Ctr l y_Seating_nextWay k_Seating_nextWay 5 (Option.some FieldType.boolean) 1 23 τ (fun ad => [vR ad o]) h (some (vI r)) h' (b01 r) := by
  refine ctr_of (by decide) hw hh (fun ad => Nat.le_of_ble_eq_true rfl) (fun ad K Y I hK => ?_)
  obtain ⟨G0, hG0⟩ : ∃ G : Int × HP → Prop, G = fun x => x = (r, h') := ⟨_, rfl⟩
  have gk0 : ∀ (x : Int) (y : HP), G0 (x, y) → b01 x → K (some (vI x)) y := fun x y g q => by
    rw [hG0] at g
    cases g
    exact hK q
  have L91 : ∀ (s : Int × Int × HP), (inR (s.1) ∧ inR (s.2.1)) → Z Y (m_Seating_nextWay_L91 o s) G0 (s.2.2) 91 [(0, vR ad o), (3, vI (s.1)), (4, vI (s.2.1))] [] := by
    intro s hs
    refine z_loop (G := G0) (hO := fun s : Int × Int × HP => s.2.2) (lO := fun s : Int × Int × HP => [(0, vR ad o), (3, vI (s.1)), (4, vI (s.2.1))]) (Φ := fun s : Int × Int × HP => inR (s.1) ∧ inR (s.2.1)) (fun G1 hin1_1 hout1 s hs => ?_) FUEL s hs
    obtain ⟨x3, x4, h⟩ := s
    obtain ⟨ax3, ax4⟩ := hs
    have gk1 := fun (x : Int) (y : HP) (g : G1 (.inr ((x, y)))) (q : b01 x) => gk0 x y (hout1 _ g) q
    show Z Y (m_Seating_nextWay_L91b o x3 x4 h) G1 h 91 [(0, vR ad o), (3, vI x3), (4, vI x4)] []
    unfold m_Seating_nextWay_L91b
    refine z_s I (s_iload_n (pc' := 92) 1 rfl D_Seating_nextWay_3.2.1.1.1 rfl rfl) ?_
    refine z_s I (s_iload (pc' := 94) 2 rfl D_Seating_nextWay_3.2.1.1.2 rfl) ?_
    refine z_icmp_ge (tgt := 113) (pc' := 97) I ax3 ax4 D_Seating_nextWay_3.2.1.2.1 rfl rfl (fun c1 => ?_) (fun c1 => ?_)
    · refine z_s I (s_iconst (pc' := 114) D_Seating_nextWay_4.2.1 rfl) ?_
      exact z_ret (w := some (vI 1)) I (fun g => gk1 _ _ g bz1) ⟨_, bz1, rfl⟩ D_Seating_nextWay_4.2.2 rfl
    · refine z_s I (s_aload_n (pc' := 98) 0 rfl D_Seating_nextWay_3.2.1.2.2 rfl rfl) ?_
      refine z_s I (s_iload_n (pc' := 99) 1 rfl D_Seating_nextWay_3.2.2.1.1 rfl rfl) ?_
      refine z_s I (s_iload (pc' := 101) 2 rfl D_Seating_nextWay_3.2.2.1.2 rfl) ?_
      refine z_b1 (fun h4 q3 => ?_)
      refine z_callV (pc' := 104) I mv_Seating_swap ml_Seating_67 (fun ad => [vI x3, vI x4]) ⟨Nat.le_of_ble_eq_true rfl, Nat.le_of_ble_eq_true rfl⟩ ao (fun hh => c_Seating_swap hw ao ax3 ax4 hh q3) rfl rfl (Nat.le_of_ble_eq_true rfl) D_Seating_nextWay_3.2.2.2.1 rfl (fun f2 => ?_)
      refine z_s I (s_iinc (pc' := 107) (lv' := [(3, vI (w32 (x3 + 1))), (0, vR ad o), (4, vI x4)]) (n := 1) rfl D_Seating_nextWay_3.2.2.2.2 (by decide) rfl rfl) ?_
      refine z_s I (s_iinc (pc' := 110) (lv' := [(4, vI (w32 (x4 + (-1)))), (3, vI (w32 (x3 + 1))), (0, vR ad o)]) (n := 2) rfl D_Seating_nextWay_4.1.1 (by decide) rfl rfl) ?_
      refine z_s I (s_goto (tgt := 91) D_Seating_nextWay_4.1.2 rfl) ?_
      refine z_s I (s_lv (lv' := [(0, vR ad o), (3, vI (w32 (x3 + 1))), (4, vI (w32 (x4 + (-1))))]) [2, 1, 0] rfl) ?_
      exact z_end (fun g => hin1_1 _ g ⟨(inR_w32 _), (inR_w32 _)⟩)
  have J73 : ∀ (x1 : Int) (ax1 : inR x1) (x2 : Int) (ax2 : inR x2) (h : HP), Z Y (m_Seating_nextWay_J73 o x1 x2 h) G0 h 73 [(0, vR ad o), (1, vI x1), (2, vI x2)] [] := by
    intro x1 ax1 x2 ax2 h
    unfold m_Seating_nextWay_J73
    refine z_s I (s_aload_n (pc' := 74) 0 rfl D_Seating_nextWay_2.2.1.2.2 rfl rfl) ?_
    refine z_s I (s_iload_n (pc' := 75) 1 rfl D_Seating_nextWay_2.2.2.1.1 rfl rfl) ?_
    refine z_s I (s_iload_n (pc' := 76) 2 rfl D_Seating_nextWay_2.2.2.1.2 rfl rfl) ?_
    refine z_b1 (fun h7 q6 => ?_)
    refine z_callV (pc' := 79) I mv_Seating_swap ml_Seating_67 (fun ad => [vI x1, vI x2]) ⟨Nat.le_of_ble_eq_true rfl, Nat.le_of_ble_eq_true rfl⟩ ao (fun hh => c_Seating_swap hw ao ax1 ax2 hh q6) rfl rfl (Nat.le_of_ble_eq_true rfl) D_Seating_nextWay_2.2.2.2.1 rfl (fun f5 => ?_)
    refine z_s I (s_iload_n (pc' := 80) 1 rfl D_Seating_nextWay_2.2.2.2.2 rfl rfl) ?_
    refine z_s I (s_iconst (pc' := 81) D_Seating_nextWay_3.1.1.1.1 rfl) ?_
    refine z_s I (s_iadd (pc' := 82) D_Seating_nextWay_3.1.1.1.2 rfl) ?_
    refine z_bI (inR_w32 _) (fun v8 e9 f10 => ?_)
    refine z_s I (s_istore_n (pc' := 83) (lv' := [(3, vI v8), (0, vR ad o), (1, vI x1), (2, vI x2)]) D_Seating_nextWay_3.1.1.2.1 rfl (by decide) rfl rfl) ?_
    refine z_s I (s_aload_n (pc' := 84) 1 rfl D_Seating_nextWay_3.1.1.2.2 rfl rfl) ?_
    refine z_getI (pc' := 87) (jI := 0) I g_Seating_7 ao rfl rfl D_Seating_nextWay_3.1.2.1.1 rfl (fun f11 => ?_)
    refine z_s I (s_iconst (pc' := 88) D_Seating_nextWay_3.1.2.1.2 rfl) ?_
    refine z_s I (s_isub (pc' := 89) D_Seating_nextWay_3.1.2.2.1 rfl) ?_
    refine z_bI (inR_w32 _) (fun v12 e13 f14 => ?_)
    refine z_s I (s_istore (pc' := 91) (lv' := [(4, vI v12), (3, vI v8), (0, vR ad o), (1, vI x1), (2, vI x2)]) D_Seating_nextWay_3.1.2.2.2 (by decide) rfl rfl) ?_
    refine z_s I (s_lv (lv' := [(0, vR ad o), (3, vI v8), (4, vI v12)]) [2, 1, 0] rfl) ?_
    exact L91 _ ⟨f10, f14⟩
  have L47 : ∀ (x1 : Int) (ax1 : inR x1) (h : HP) (s : Int), (inR s) → Z Y (m_Seating_nextWay_L47 o x1 h s) G0 h 47 [(0, vR ad o), (1, vI x1), (2, vI s)] [] := by
    intro x1 ax1 h s hs
    refine z_loop (G := G0) (hO := fun s : Int => h) (lO := fun s : Int => [(0, vR ad o), (1, vI x1), (2, vI s)]) (Φ := fun s : Int => inR s) (fun G1 hin1_1 hout1 s hs => ?_) FUEL s hs
    obtain ⟨x2, rfl⟩ : ∃ z, z = s := ⟨_, rfl⟩
    have ax2 := hs
    have gk1 := fun (x : Int) (y : HP) (g : G1 (.inr ((x, y)))) (q : b01 x) => gk0 x y (hout1 _ g) q
    show Z Y (m_Seating_nextWay_L47b o x1 h x2) G1 h 47 [(0, vR ad o), (1, vI x1), (2, vI x2)] []
    unfold m_Seating_nextWay_L47b
    refine z_s I (s_iload_n (pc' := 48) 2 rfl D_Seating_nextWay_1.2.2.1.2 rfl rfl) ?_
    refine z_s I (s_iload_n (pc' := 49) 1 rfl D_Seating_nextWay_1.2.2.2.1 rfl rfl) ?_
    refine z_icmp_le (tgt := 73) (pc' := 52) I ax2 ax1 D_Seating_nextWay_1.2.2.2.2 rfl rfl (fun c15 => ?_) (fun c15 => ?_)
    · refine z_map _ (fun x g => hout1 x g) ?_
      exact J73 _ ax1 _ ax2 _
    · refine z_s I (s_aload_n (pc' := 53) 0 rfl D_Seating_nextWay_2.1.1.1.1 rfl rfl) ?_
      refine z_getR (pc' := 56) (eI := o + 2) I g_Seating_17 ao rfl (by omega) D_Seating_nextWay_2.1.1.1.2 rfl ?_
      have k16 : ok τ (0, 6) (o + 2) := r_Seating_seatOf hw ao (by omega)
      refine z_s I (s_iload_n (pc' := 57) 2 rfl D_Seating_nextWay_2.1.1.2.1 rfl rfl) ?_
      refine z_iald (pc' := 58) (nI := 6) I k16 ax2 rfl D_Seating_nextWay_2.1.1.2.2 rfl (fun c17 f18 => ?_)
      refine z_s I (s_aload_n (pc' := 59) 0 rfl D_Seating_nextWay_2.1.2.1.1 rfl rfl) ?_
      refine z_getR (pc' := 62) (eI := o + 2) I g_Seating_17 ao rfl (by omega) D_Seating_nextWay_2.1.2.1.2 rfl ?_
      have k19 : ok τ (0, 6) (o + 2) := r_Seating_seatOf hw ao (by omega)
      refine z_s I (s_iload_n (pc' := 63) 1 rfl D_Seating_nextWay_2.1.2.2.1 rfl rfl) ?_
      refine z_iald (pc' := 64) (nI := 6) I k19 ax1 rfl D_Seating_nextWay_2.1.2.2.2 rfl (fun c20 f21 => ?_)
      refine z_icmp_ge (tgt := 73) (pc' := 67) I f18 f21 D_Seating_nextWay_2.2.1.1.1 rfl rfl (fun c22 => ?_) (fun c22 => ?_)
      · refine z_map _ (fun x g => hout1 x g) ?_
        exact J73 _ ax1 _ ax2 _
      · refine z_s I (s_iinc (pc' := 70) (lv' := [(2, vI (w32 (x2 + (-1)))), (0, vR ad o), (1, vI x1)]) (n := 2) rfl D_Seating_nextWay_2.2.1.1.2 (by decide) rfl rfl) ?_
        refine z_s I (s_goto (tgt := 47) D_Seating_nextWay_2.2.1.2.1 rfl) ?_
        refine z_s I (s_lv (lv' := [(0, vR ad o), (1, vI x1), (2, vI (w32 (x2 + (-1))))]) [1, 2, 0] rfl) ?_
        exact z_end (fun g => hin1_1 _ g (inR_w32 _))
  have J34 : ∀ (x1 : Int) (ax1 : inR x1) (h : HP), Z Y (m_Seating_nextWay_J34 o x1 h) G0 h 34 [(0, vR ad o), (1, vI x1)] [] := by
    intro x1 ax1 h
    unfold m_Seating_nextWay_J34
    refine z_s I (s_iload_n (pc' := 35) 1 rfl D_Seating_nextWay_1.1.2.1.1 rfl rfl) ?_
    refine z_if_ge (tgt := 40) (pc' := 38) I ax1 D_Seating_nextWay_1.1.2.1.2 rfl rfl (fun c23 => ?_) (fun c23 => ?_)
    · refine z_s I (s_aload_n (pc' := 41) 0 rfl D_Seating_nextWay_1.2.1.1.1 rfl rfl) ?_
      refine z_getI (pc' := 44) (jI := 0) I g_Seating_7 ao rfl rfl D_Seating_nextWay_1.2.1.1.2 rfl (fun f24 => ?_)
      refine z_s I (s_iconst (pc' := 45) D_Seating_nextWay_1.2.1.2.1 rfl) ?_
      refine z_s I (s_isub (pc' := 46) D_Seating_nextWay_1.2.1.2.2 rfl) ?_
      refine z_bI (inR_w32 _) (fun v25 e26 f27 => ?_)
      refine z_s I (s_istore_n (pc' := 47) (lv' := [(2, vI v25), (0, vR ad o), (1, vI x1)]) D_Seating_nextWay_1.2.2.1.1 rfl (by decide) rfl rfl) ?_
      refine z_s I (s_lv (lv' := [(0, vR ad o), (1, vI x1), (2, vI v25)]) [1, 2, 0] rfl) ?_
      exact L47 _ ax1 _ _ f27
    · refine z_s I (s_iconst (pc' := 39) D_Seating_nextWay_1.1.2.2.1 rfl) ?_
      exact z_ret (w := some (vI 0)) I (fun g => gk0 _ _ g bz0) ⟨_, bz0, rfl⟩ D_Seating_nextWay_1.1.2.2.2 rfl
  have L7 : ∀ (h : HP) (s : Int), (inR s) → Z Y (m_Seating_nextWay_L7 o h s) G0 h 7 [(0, vR ad o), (1, vI s)] [] := by
    intro h s hs
    refine z_loop (G := G0) (hO := fun s : Int => h) (lO := fun s : Int => [(0, vR ad o), (1, vI s)]) (Φ := fun s : Int => inR s) (fun G1 hin1_1 hout1 s hs => ?_) FUEL s hs
    obtain ⟨x1, rfl⟩ : ∃ z, z = s := ⟨_, rfl⟩
    have ax1 := hs
    have gk1 := fun (x : Int) (y : HP) (g : G1 (.inr ((x, y)))) (q : b01 x) => gk0 x y (hout1 _ g) q
    show Z Y (m_Seating_nextWay_L7b o h x1) G1 h 7 [(0, vR ad o), (1, vI x1)] []
    unfold m_Seating_nextWay_L7b
    refine z_s I (s_iload_n (pc' := 8) 1 rfl D_Seating_nextWay_0.1.2.1.2 rfl rfl) ?_
    refine z_if_lt (tgt := 34) (pc' := 11) I ax1 D_Seating_nextWay_0.1.2.2.1 rfl rfl (fun c28 => ?_) (fun c28 => ?_)
    · refine z_map _ (fun x g => hout1 x g) ?_
      exact J34 _ ax1 _
    · refine z_s I (s_aload_n (pc' := 12) 0 rfl D_Seating_nextWay_0.1.2.2.2 rfl rfl) ?_
      refine z_getR (pc' := 15) (eI := o + 2) I g_Seating_17 ao rfl (by omega) D_Seating_nextWay_0.2.1.1.1 rfl ?_
      have k29 : ok τ (0, 6) (o + 2) := r_Seating_seatOf hw ao (by omega)
      refine z_s I (s_iload_n (pc' := 16) 1 rfl D_Seating_nextWay_0.2.1.1.2 rfl rfl) ?_
      refine z_iald (pc' := 17) (nI := 6) I k29 ax1 rfl D_Seating_nextWay_0.2.1.2.1 rfl (fun c30 f31 => ?_)
      refine z_s I (s_aload_n (pc' := 18) 0 rfl D_Seating_nextWay_0.2.1.2.2 rfl rfl) ?_
      refine z_getR (pc' := 21) (eI := o + 2) I g_Seating_17 ao rfl (by omega) D_Seating_nextWay_0.2.2.1.1 rfl ?_
      have k32 : ok τ (0, 6) (o + 2) := r_Seating_seatOf hw ao (by omega)
      refine z_s I (s_iload_n (pc' := 22) 1 rfl D_Seating_nextWay_0.2.2.1.2 rfl rfl) ?_
      refine z_s I (s_iconst (pc' := 23) D_Seating_nextWay_0.2.2.2.1 rfl) ?_
      refine z_s I (s_iadd (pc' := 24) D_Seating_nextWay_0.2.2.2.2 rfl) ?_
      refine z_iald (pc' := 25) (nI := 6) I k32 (inR_w32 _) rfl D_Seating_nextWay_1.1.1.1.1 rfl (fun c33 f34 => ?_)
      refine z_icmp_le (tgt := 34) (pc' := 28) I f31 f34 D_Seating_nextWay_1.1.1.1.2 rfl rfl (fun c35 => ?_) (fun c35 => ?_)
      · refine z_map _ (fun x g => hout1 x g) ?_
        exact J34 _ ax1 _
      · refine z_s I (s_iinc (pc' := 31) (lv' := [(1, vI (w32 (x1 + (-1)))), (0, vR ad o)]) (n := 1) rfl D_Seating_nextWay_1.1.1.2.1 (by decide) rfl rfl) ?_
        refine z_s I (s_goto (tgt := 7) D_Seating_nextWay_1.1.1.2.2 rfl) ?_
        refine z_s I (s_lv (lv' := [(0, vR ad o), (1, vI (w32 (x1 + (-1))))]) [1, 0] rfl) ?_
        exact z_end (fun g => hin1_1 _ g (inR_w32 _))
  have main : Z Y (m_Seating_nextWay o h) G0 h 0 [(0, vR ad o)] [] := by
    unfold m_Seating_nextWay
    refine z_s I (s_aload_n (pc' := 1) 0 rfl D_Seating_nextWay_0.1.1.1.1 rfl rfl) ?_
    refine z_getI (pc' := 4) (jI := 0) I g_Seating_7 ao rfl rfl D_Seating_nextWay_0.1.1.1.2 rfl (fun f36 => ?_)
    refine z_s I (s_iconst (pc' := 5) D_Seating_nextWay_0.1.1.2.1 rfl) ?_
    refine z_s I (s_isub (pc' := 6) D_Seating_nextWay_0.1.1.2.2 rfl) ?_
    refine z_bI (inR_w32 _) (fun v37 e38 f39 => ?_)
    refine z_s I (s_istore_n (pc' := 7) (lv' := [(1, vI v37), (0, vR ad o)]) D_Seating_nextWay_0.1.2.1.1 rfl (by decide) rfl rfl) ?_
    refine z_s I (s_lv (lv' := [(0, vR ad o), (1, vI v37)]) [1, 0] rfl) ?_
    exact L7 _ _ f39
  exact main _ hF (by rw [hG0])
set_option maxHeartbeats 4000000 in
set_option maxRecDepth 20000 in
theorem c_Seating_ways {l : Launch} {τ : TP} {o : Int} {r1 : Int} {r2 : Int} {x3 : Int} {r4 : Int} {h : HP} {h' : HP} (hw : wf τ) (ao : ok τ (4, 6) o) (ar1 : ok τ (4, 1) r1) (ar2 : ok τ (4, 2) r2) (ax3 : inR x3) (ar4 : ok τ (4, 5) r4) (hh : hr τ h) (hF : m_Seating_ways o r1 r2 x3 r4 h = some h') : Ctr l y_Seating_ways k_Seating_ways 9 (Option.none : Option FieldType) 3 69 τ (fun ad => [vR ad o, vR ad r1, vR ad r2, vI x3, vR ad r4]) h none h' (True) := by
  refine ctr_of (by decide) hw hh (fun ad => Nat.le_of_ble_eq_true rfl) (fun ad K Y I hK => ?_)
  obtain ⟨G0, hG0⟩ : ∃ G : HP → Prop, G = fun x => x = h' := ⟨_, rfl⟩
  have gk0 : ∀ (x : HP), G0 x → K none x := fun x g => by
    rw [hG0] at g
    cases g
    exact hK trivial
  have J64 : ∀ (x6 : Int) (ax6 : inR x6) (x7 : Int) (ax7 : inR x7) (h : HP), Z Y (m_Seating_ways_J64 r4 x6 x7 h) G0 h 64 [(4, vR ad r4), (6, vI x6), (7, vI x7)] [] := by
    intro x6 ax6 x7 ax7 h
    unfold m_Seating_ways_J64
    refine z_s I (s_aload (pc' := 66) 0 rfl D_Seating_ways_2.1.1 rfl) ?_
    refine z_s I (s_iload (pc' := 68) 2 rfl D_Seating_ways_2.1.2.1 rfl) ?_
    refine z_s I (s_i2l (pc' := 69) ax7 D_Seating_ways_2.1.2.2 rfl) ?_
    refine z_s I (s_iload (pc' := 71) 1 rfl D_Seating_ways_2.2.1.1 rfl) ?_
    refine z_s I (s_i2l (pc' := 72) ax6 D_Seating_ways_2.2.1.2 rfl) ?_
    refine z_b1 (fun h3 q2 => ?_)
    refine z_callV (pc' := 75) I mv_Ratio_put ml_Seating_42 (fun ad => [vL x7, vL x6]) ⟨Nat.le_of_ble_eq_true rfl, Nat.le_of_ble_eq_true rfl⟩ ar4 (fun hh => c_Ratio_put hw ar4 (ax7).L (ax6).L hh q2) rfl rfl (Nat.le_of_ble_eq_true rfl) D_Seating_ways_2.2.2.1 rfl (fun f1 => ?_)
    exact z_ret (w := none) I (fun g => gk0 _ g) rfl D_Seating_ways_2.2.2.2 rfl
  have L27 : ∀ (x5 : Int) (ax5 : inR x5) (s : Int × Int × Int × HP), (inR (s.1) ∧ inR (s.2.1) ∧ b01 (s.2.2.1)) → Z Y (m_Seating_ways_L27 o r4 x5 s) G0 (s.2.2.2) 27 [(0, vR ad o), (4, vR ad r4), (5, vI x5), (6, vI (s.1)), (7, vI (s.2.1)), (8, vI (s.2.2.1))] [] := by
    intro x5 ax5 s hs
    refine z_loop (G := G0) (hO := fun s : Int × Int × Int × HP => s.2.2.2) (lO := fun s : Int × Int × Int × HP => [(0, vR ad o), (4, vR ad r4), (5, vI x5), (6, vI (s.1)), (7, vI (s.2.1)), (8, vI (s.2.2.1))]) (Φ := fun s : Int × Int × Int × HP => inR (s.1) ∧ inR (s.2.1) ∧ b01 (s.2.2.1)) (fun G1 hin1_1 hout1 s hs => ?_) FUEL s hs
    obtain ⟨x6, x7, x8, h⟩ := s
    obtain ⟨ax6, ax7, ax8⟩ := hs
    have gk1 := fun (x : HP) (g : G1 (.inr (x))) => gk0 x (hout1 _ g)
    have J55 : ∀ (x6 : Int) (ax6 : inR x6) (x7 : Int) (ax7 : inR x7) (h : HP), Z Y (m_Seating_ways_J55 o r4 x5 x6 x7 h) G1 h 55 [(0, vR ad o), (4, vR ad r4), (5, vI x5), (6, vI x6), (7, vI x7)] [] := by
      intro x6 ax6 x7 ax7 h
      unfold m_Seating_ways_J55
      refine z_s I (s_aload_n (pc' := 56) 0 rfl D_Seating_ways_1.2.2.1.1 rfl rfl) ?_
      refine z_b2 (fun r6 h7 q5 => ?_)
      refine z_callV (pc' := 59) I mv_Seating_nextWay ml_Seating_38 (fun ad => []) ⟨Nat.le_of_ble_eq_true rfl, Nat.le_of_ble_eq_true rfl⟩ ao (fun hh => c_Seating_nextWay hw ao hh q5) rfl rfl (Nat.le_of_ble_eq_true rfl) D_Seating_ways_1.2.2.1.2 rfl (fun f4 => ?_)
      refine z_s I (s_istore (pc' := 61) (lv' := [(8, vI r6), (0, vR ad o), (4, vR ad r4), (5, vI x5), (6, vI x6), (7, vI x7)]) D_Seating_ways_1.2.2.2.1 (by decide) rfl rfl) ?_
      refine z_s I (s_goto (tgt := 27) D_Seating_ways_1.2.2.2.2 rfl) ?_
      refine z_s I (s_lv (lv' := [(0, vR ad o), (4, vR ad r4), (5, vI x5), (6, vI x6), (7, vI x7), (8, vI r6)]) [1, 2, 3, 4, 5, 0] rfl) ?_
      exact z_end (fun g => hin1_1 _ g ⟨ax6, ax7, f4⟩)
    show Z Y (m_Seating_ways_L27b o r4 x5 x6 x7 x8 h) G1 h 27 [(0, vR ad o), (4, vR ad r4), (5, vI x5), (6, vI x6), (7, vI x7), (8, vI x8)] []
    unfold m_Seating_ways_L27b
    refine z_s I (s_iload (pc' := 29) 5 rfl D_Seating_ways_1.1.1.1.2 rfl) ?_
    refine z_if_eq (tgt := 64) (pc' := 32) I (b01.R ax8) D_Seating_ways_1.1.1.2.1 rfl rfl (fun c8 => ?_) (fun c8 => ?_)
    · refine z_map _ (fun x g => hout1 x g) ?_
      refine z_s I (s_lv (lv' := [(4, vR ad r4), (6, vI x6), (7, vI x7)]) [1, 3, 4] rfl) ?_
      exact J64 _ ax6 _ ax7 _
    · refine z_s I (s_iload (pc' := 34) 3 rfl D_Seating_ways_1.1.1.2.2 rfl) ?_
      refine z_s I (s_sipush (pc' := 37) D_Seating_ways_1.1.2.1.1 rfl rfl) ?_
      refine z_icmp_ge (tgt := 64) (pc' := 40) I ax6 (inR_c (x := 720) rfl) D_Seating_ways_1.1.2.1.2 rfl rfl (fun c9 => ?_) (fun c9 => ?_)
      · refine z_map _ (fun x g => hout1 x g) ?_
        refine z_s I (s_lv (lv' := [(4, vR ad r4), (6, vI x6), (7, vI x7)]) [1, 3, 4] rfl) ?_
        exact J64 _ ax6 _ ax7 _
      · refine z_s I (s_iinc (pc' := 43) (lv' := [(6, vI (w32 (x6 + 1))), (0, vR ad o), (4, vR ad r4), (5, vI x5), (7, vI x7), (8, vI x8)]) (n := 3) rfl D_Seating_ways_1.1.2.2.1 (by decide) rfl rfl) ?_
        refine z_s I (s_aload_n (pc' := 44) 1 rfl D_Seating_ways_1.1.2.2.2 rfl rfl) ?_
        refine z_b1 (fun r12 q11 => ?_)
        refine z_callV (pc' := 47) I mv_Seating_nearSuspects ml_Seating_34 (fun ad => []) ⟨Nat.le_of_ble_eq_true rfl, Nat.le_of_ble_eq_true rfl⟩ ao (fun hh => c_Seating_nearSuspects hw ao hh q11) rfl rfl (Nat.le_of_ble_eq_true rfl) D_Seating_ways_1.2.1.1.1 rfl (fun f10 => ?_)
        refine z_s I (s_iload (pc' := 49) 3 rfl D_Seating_ways_1.2.1.1.2 rfl) ?_
        refine z_icmp_lt (tgt := 55) (pc' := 52) I f10 ax5 D_Seating_ways_1.2.1.2.1 rfl rfl (fun c13 => ?_) (fun c13 => ?_)
        · refine z_s I (s_lv (lv' := [(0, vR ad o), (4, vR ad r4), (5, vI x5), (6, vI (w32 (x6 + 1))), (7, vI x7)]) [1, 2, 3, 0, 4] rfl) ?_
          exact J55 _ (inR_w32 _) _ ax7 _
        · refine z_s I (s_iinc (pc' := 55) (lv' := [(7, vI (w32 (x7 + 1))), (6, vI (w32 (x6 + 1))), (0, vR ad o), (4, vR ad r4), (5, vI x5), (8, vI x8)]) (n := 4) rfl D_Seating_ways_1.2.1.2.2 (by decide) rfl rfl) ?_
          refine z_s I (s_lv (lv' := [(0, vR ad o), (4, vR ad r4), (5, vI x5), (6, vI (w32 (x6 + 1))), (7, vI (w32 (x7 + 1)))]) [2, 3, 4, 1, 0] rfl) ?_
          exact J55 _ (inR_w32 _) _ (inR_w32 _) _
  have main : Z Y (m_Seating_ways o r1 r2 x3 r4 h) G0 h 0 [(0, vR ad o), (1, vR ad r1), (2, vR ad r2), (3, vI x3), (4, vR ad r4)] [] := by
    unfold m_Seating_ways
    refine z_s I (s_aload_n (pc' := 1) 0 rfl D_Seating_ways_0.1.1.1.1 rfl rfl) ?_
    refine z_s I (s_aload_n (pc' := 2) 1 rfl D_Seating_ways_0.1.1.1.2 rfl rfl) ?_
    refine z_b1 (fun h16 q15 => ?_)
    refine z_callV (pc' := 5) I mv_Seating_gather ml_Seating_26 (fun ad => [vR ad r1]) ⟨Nat.le_of_ble_eq_true rfl, Nat.le_of_ble_eq_true rfl⟩ ao (fun hh => c_Seating_gather hw ao ar1 hh q15) rfl rfl (Nat.le_of_ble_eq_true rfl) D_Seating_ways_0.1.1.2.1 rfl (fun f14 => ?_)
    refine z_s I (s_aload_n (pc' := 6) 0 rfl D_Seating_ways_0.1.1.2.2 rfl rfl) ?_
    refine z_s I (s_aload_n (pc' := 7) 1 rfl D_Seating_ways_0.1.2.1.1 rfl rfl) ?_
    refine z_s I (s_aload_n (pc' := 8) 2 rfl D_Seating_ways_0.1.2.1.2 rfl rfl) ?_
    refine z_s I (s_iload_n (pc' := 9) 3 rfl D_Seating_ways_0.1.2.2.1 rfl rfl) ?_
    refine z_b1 (fun h19 q18 => ?_)
    refine z_callV (pc' := 12) I mv_Seating_relate ml_Seating_30 (fun ad => [vR ad r1, vR ad r2, vI x3]) ⟨Nat.le_of_ble_eq_true rfl, Nat.le_of_ble_eq_true rfl⟩ ao (fun hh => c_Seating_relate hw ao ar1 ar2 ax3 hh q18) rfl rfl (Nat.le_of_ble_eq_true rfl) D_Seating_ways_0.1.2.2.2 rfl (fun f17 => ?_)
    refine z_s I (s_aload_n (pc' := 13) 0 rfl D_Seating_ways_0.2.1.1.1 rfl rfl) ?_
    refine z_b1 (fun r22 q21 => ?_)
    refine z_callV (pc' := 16) I mv_Seating_nearSuspects ml_Seating_34 (fun ad => []) ⟨Nat.le_of_ble_eq_true rfl, Nat.le_of_ble_eq_true rfl⟩ ao (fun hh => c_Seating_nearSuspects hw ao hh q21) rfl rfl (Nat.le_of_ble_eq_true rfl) D_Seating_ways_0.2.1.1.2 rfl (fun f20 => ?_)
    refine z_s I (s_istore (pc' := 18) (lv' := [(5, vI r22), (0, vR ad o), (1, vR ad r1), (2, vR ad r2), (3, vI x3), (4, vR ad r4)]) D_Seating_ways_0.2.1.2.1 (by decide) rfl rfl) ?_
    refine z_s I (s_iconst (pc' := 19) D_Seating_ways_0.2.1.2.2 rfl) ?_
    refine z_s I (s_istore (pc' := 21) (lv' := [(6, vI 0), (5, vI r22), (0, vR ad o), (1, vR ad r1), (2, vR ad r2), (3, vI x3), (4, vR ad r4)]) D_Seating_ways_0.2.2.1.1 (by decide) rfl rfl) ?_
    refine z_s I (s_iconst (pc' := 22) D_Seating_ways_0.2.2.1.2 rfl) ?_
    refine z_s I (s_istore (pc' := 24) (lv' := [(7, vI 0), (6, vI 0), (5, vI r22), (0, vR ad o), (1, vR ad r1), (2, vR ad r2), (3, vI x3), (4, vR ad r4)]) D_Seating_ways_0.2.2.2.1 (by decide) rfl rfl) ?_
    refine z_s I (s_iconst (pc' := 25) D_Seating_ways_0.2.2.2.2 rfl) ?_
    refine z_s I (s_istore (pc' := 27) (lv' := [(8, vI 1), (7, vI 0), (6, vI 0), (5, vI r22), (0, vR ad o), (1, vR ad r1), (2, vR ad r2), (3, vI x3), (4, vR ad r4)]) D_Seating_ways_1.1.1.1.1 (by decide) rfl rfl) ?_
    refine z_s I (s_lv (lv' := [(0, vR ad o), (4, vR ad r4), (5, vI r22), (6, vI 0), (7, vI 0), (8, vI 1)]) [4, 8, 3, 2, 1, 0] rfl) ?_
    exact L27 _ f20 _ ⟨(b01.R bz0), (b01.R bz0), bz1⟩
  exact main _ hF (by rw [hG0])
set_option maxHeartbeats 4000000 in
set_option maxRecDepth 20000 in
theorem c_Cb_seated {l : Launch} {τ : TP} {o : Int} {x1 : Int} {x2 : Int} {h : HP} {r : Int} {h' : HP} (hw : wf τ) (ao : ok τ (4, 9) o) (ax1 : inR x1) (ax2 : inR x2) (hh : hr τ h) (hF : m_Cb_seated o x1 x2 h = some (r, h')) : Ctr l y_Cb_seated k_Cb_seated 3 (Option.some FieldType.long) 6 158 τ (fun ad => [vR ad o, vI x1, vI x2]) h (some (vL r)) h' (inL r) := by
  refine ctr_of (by decide) hw hh (fun ad => Nat.le_of_ble_eq_true rfl) (fun ad K Y I hK => ?_)
  obtain ⟨G0, hG0⟩ : ∃ G : Int × HP → Prop, G = fun x => x = (r, h') := ⟨_, rfl⟩
  have gk0 : ∀ (x : Int) (y : HP), G0 (x, y) → inL x → K (some (vL x)) y := fun x y g q => by
    rw [hG0] at g
    cases g
    exact hK q
  have main : Z Y (m_Cb_seated o x1 x2 h) G0 h 0 [(0, vR ad o), (1, vI x1), (2, vI x2)] [] := by
    unfold m_Cb_seated
    refine z_s I (s_iload_n (pc' := 1) 1 rfl D_Cb_seated_0.1.1.1.1 rfl rfl) ?_
    refine z_s I (s_iconst (pc' := 2) D_Cb_seated_0.1.1.1.2 rfl) ?_
    refine z_icmp_lt (tgt := 18) (pc' := 5) I ax1 (b01.R bz1) D_Cb_seated_0.1.1.2.1 rfl rfl (fun c1 => ?_) (fun c1 => ?_)
    · refine z_ldc2 (pc' := 21) (x := (-9223372036854775808)) I cl_Cb_215 (by decide +kernel) D_Cb_seated_0.2.1.1.2 rfl ?_
      exact z_ret (w := some (vL (-9223372036854775808))) I (fun g => gk0 _ _ g (inL_c (x := (-9223372036854775808)) rfl)) ⟨_, rfl⟩ D_Cb_seated_0.2.1.2.1 rfl
    · refine z_s I (s_iload_n (pc' := 6) 1 rfl D_Cb_seated_0.1.1.2.2 rfl rfl) ?_
      refine z_s I (s_bipush (pc' := 8) D_Cb_seated_0.1.2.1.1 rfl rfl) ?_
      refine z_icmp_ge (tgt := 18) (pc' := 11) I ax1 (inR_c (x := 10) rfl) D_Cb_seated_0.1.2.1.2 rfl rfl (fun c2 => ?_) (fun c2 => ?_)
      · refine z_ldc2 (pc' := 21) (x := (-9223372036854775808)) I cl_Cb_215 (by decide +kernel) D_Cb_seated_0.2.1.1.2 rfl ?_
        exact z_ret (w := some (vL (-9223372036854775808))) I (fun g => gk0 _ _ g (inL_c (x := (-9223372036854775808)) rfl)) ⟨_, rfl⟩ D_Cb_seated_0.2.1.2.1 rfl
      · refine z_s I (s_iload_n (pc' := 12) 2 rfl D_Cb_seated_0.1.2.2.1 rfl rfl) ?_
        refine z_b1 (fun r5 q4 => ?_)
        refine z_callS (pc' := 15) I mv_Cb_isPart ml_Cb_212 (fun ad => [vI x2]) ⟨Nat.le_of_ble_eq_true rfl, Nat.le_of_ble_eq_true rfl⟩ (fun hh => c_Cb_isPart hw ax2 hh q4) rfl rfl (Nat.le_of_ble_eq_true rfl) D_Cb_seated_0.1.2.2.2 rfl (fun f3 => ?_)
        refine z_if_ne (tgt := 22) (pc' := 18) I (b01.R f3) D_Cb_seated_0.2.1.1.1 rfl rfl (fun c6 => ?_) (fun c6 => ?_)
        · refine z_s I (s_aload_n (pc' := 23) 0 rfl D_Cb_seated_0.2.1.2.2 rfl rfl) ?_
          refine z_b1 (fun h9 q8 => ?_)
          refine z_callV (pc' := 26) I mv_Cb_linkNow ml_Cb_252 (fun ad => []) ⟨Nat.le_of_ble_eq_true rfl, Nat.le_of_ble_eq_true rfl⟩ ao (fun hh => c_Cb_linkNow hw ao hh q8) rfl rfl (Nat.le_of_ble_eq_true rfl) D_Cb_seated_0.2.2.1.1 rfl (fun f7 => ?_)
          refine z_s I (s_aload_n (pc' := 27) 0 rfl D_Cb_seated_0.2.2.1.2 rfl rfl) ?_
          refine z_getR (pc' := 30) (eI := o + 108) I g_Cb_75 ao rfl (by omega) D_Cb_seated_0.2.2.2.1 rfl ?_
          have k10 : ok τ (4, 6) (o + 108) := r_Cb_seating hw ao (by omega)
          refine z_s I (s_aload_n (pc' := 31) 0 rfl D_Cb_seated_0.2.2.2.2 rfl rfl) ?_
          refine z_getR (pc' := 34) (eI := o + 1) I g_Cb_12 ao rfl (by omega) D_Cb_seated_1.1.1.1 rfl ?_
          have k11 : ok τ (4, 1) (o + 1) := r_Cb_now hw ao (by omega)
          refine z_s I (s_aload_n (pc' := 35) 0 rfl D_Cb_seated_1.1.1.2.1 rfl rfl) ?_
          refine z_getR (pc' := 38) (eI := o + 106) I g_Cb_68 ao rfl (by omega) D_Cb_seated_1.1.1.2.2 rfl ?_
          have k12 : ok τ (4, 2) (o + 106) := r_Cb_links hw ao (by omega)
          refine z_s I (s_iload_n (pc' := 39) 1 rfl D_Cb_seated_1.1.2.1 rfl rfl) ?_
          refine z_s I (s_aload_n (pc' := 40) 0 rfl D_Cb_seated_1.1.2.2.1 rfl rfl) ?_
          refine z_getR (pc' := 43) (eI := o + 97) I g_Cb_51 ao rfl (by omega) D_Cb_seated_1.1.2.2.2 rfl ?_
          have k13 : ok τ (4, 5) (o + 97) := r_Cb_first hw ao (by omega)
          refine z_b1 (fun h16 q15 => ?_)
          refine z_callV (pc' := 46) I mv_Seating_ways ml_Cb_289 (fun ad => [vR ad (o + 1), vR ad (o + 106), vI x1, vR ad (o + 97)]) ⟨Nat.le_of_ble_eq_true rfl, Nat.le_of_ble_eq_true rfl⟩ k10 (fun hh => c_Seating_ways hw k10 k11 k12 ax1 k13 hh q15) rfl rfl (Nat.le_of_ble_eq_true rfl) D_Cb_seated_1.2.1.1 rfl (fun f14 => ?_)
          refine z_s I (s_aload_n (pc' := 47) 0 rfl D_Cb_seated_1.2.1.2.1 rfl rfl) ?_
          refine z_getR (pc' := 50) (eI := o + 97) I g_Cb_51 ao rfl (by omega) D_Cb_seated_1.2.1.2.2 rfl ?_
          have k17 : ok τ (4, 5) (o + 97) := r_Cb_first hw ao (by omega)
          refine z_s I (s_iload_n (pc' := 51) 2 rfl D_Cb_seated_1.2.2.1 rfl rfl) ?_
          refine z_b1 (fun r20 q19 => ?_)
          refine z_callV (pc' := 54) I mv_Ratio_half ml_Cb_225 (fun ad => [vI x2]) ⟨Nat.le_of_ble_eq_true rfl, Nat.le_of_ble_eq_true rfl⟩ k17 (fun hh => c_Ratio_half hw k17 ax2 hh q19) rfl rfl (Nat.le_of_ble_eq_true rfl) D_Cb_seated_1.2.2.2.1 rfl (fun f18 => ?_)
          exact z_ret (w := some (vL r20)) I (fun g => gk0 _ _ g f18) ⟨_, rfl⟩ D_Cb_seated_1.2.2.2.2 rfl
        · refine z_ldc2 (pc' := 21) (x := (-9223372036854775808)) I cl_Cb_215 (by decide +kernel) D_Cb_seated_0.2.1.1.2 rfl ?_
          exact z_ret (w := some (vL (-9223372036854775808))) I (fun g => gk0 _ _ g (inL_c (x := (-9223372036854775808)) rfl)) ⟨_, rfl⟩ D_Cb_seated_0.2.1.2.1 rfl
  exact main _ hF (by rw [hG0])
set_option maxHeartbeats 4000000 in
set_option maxRecDepth 20000 in
theorem c_Draws_below {l : Launch} {τ : TP} {o : Int} {x1 : Int} {h : HP} {r : Int} {h' : HP} (hw : wf τ) (ao : ok τ (4, 0) o) (ax1 : inR x1) (hh : hr τ h) (hF : m_Draws_below o x1 h = some (r, h')) : Ctr l y_Draws_below k_Draws_below 2 (Option.some FieldType.int) 0 0 τ (fun ad => [vR ad o, vI x1]) h (some (vI r)) h' (inR r) := by
  refine ctr_of (by decide) hw hh (fun ad => Nat.le_of_ble_eq_true rfl) (fun ad K Y I hK => ?_)
  obtain ⟨G0, hG0⟩ : ∃ G : Int × HP → Prop, G = fun x => x = (r, h') := ⟨_, rfl⟩
  have gk0 : ∀ (x : Int) (y : HP), G0 (x, y) → inR x → K (some (vI x)) y := fun x y g q => by
    rw [hG0] at g
    cases g
    exact hK q
  have main : Z Y (m_Draws_below o x1 h) G0 h 0 [(0, vR ad o), (1, vI x1)] [] := by
    unfold m_Draws_below
    refine z_s I (s_aload_n (pc' := 1) 0 rfl D_Draws_below_0.1.1.1.1 rfl rfl) ?_
    refine z_s I (s_aload_n (pc' := 2) 0 rfl D_Draws_below_0.1.1.1.2 rfl rfl) ?_
    refine z_getI (pc' := 5) (jI := 0) I g_Draws_9 ao rfl rfl D_Draws_below_0.1.1.2.1 rfl (fun f1 => ?_)
    refine z_ldc (pc' := 7) (x := 1103515245) I cn_Draws_49 (by decide +kernel) D_Draws_below_0.1.1.2.2 rfl ?_
    refine z_s I (s_imul (pc' := 8) D_Draws_below_0.1.2.1.1 rfl) ?_
    refine z_s I (s_sipush (pc' := 11) D_Draws_below_0.1.2.1.2 rfl rfl) ?_
    refine z_s I (s_iadd (pc' := 12) D_Draws_below_0.1.2.2.1 rfl) ?_
    refine z_putI (pc' := 15) (jI := 0) I p_Draws_9 ao rfl rfl (inR_w32 _) D_Draws_below_0.1.2.2.2 rfl ?_
    refine z_bH (fun h2 e3 => ?_)
    refine z_s I (s_iload_n (pc' := 16) 1 rfl D_Draws_below_0.2.1.1.1 rfl rfl) ?_
    refine z_if_le (tgt := 31) (pc' := 19) I ax1 D_Draws_below_0.2.1.1.2 rfl rfl (fun c4 => ?_) (fun c4 => ?_)
    · refine z_s I (s_iconst (pc' := 32) D_Draws_below_1.2.1 rfl) ?_
      exact z_ret (w := some (vI 0)) I (fun g => gk0 _ _ g (b01.R bz0)) ⟨_, rfl⟩ D_Draws_below_1.2.2 rfl
    · refine z_s I (s_aload_n (pc' := 20) 0 rfl D_Draws_below_0.2.1.2.1 rfl rfl) ?_
      refine z_getI (pc' := 23) (jI := 0) I g_Draws_9 ao rfl rfl D_Draws_below_0.2.1.2.2 rfl (fun f5 => ?_)
      refine z_s I (s_bipush (pc' := 25) D_Draws_below_0.2.2.1.1 rfl rfl) ?_
      refine z_s I (s_iushr (pc' := 26) D_Draws_below_0.2.2.1.2 rfl) ?_
      refine z_s I (s_iload_n (pc' := 27) 1 rfl D_Draws_below_0.2.2.2.1 rfl rfl) ?_
      refine z_irem (pc' := 28) I ax1 D_Draws_below_0.2.2.2.2 rfl (fun c6 => ?_)
      refine z_s I (s_goto (tgt := 32) D_Draws_below_1.1 rfl) ?_
      exact z_ret (w := some (vI (iRem (iUshr (h2 o 0) 9) x1))) I (fun g => gk0 _ _ g (r_iRem _ _)) ⟨_, rfl⟩ D_Draws_below_1.2.2 rfl
  exact main _ hF (by rw [hG0])
set_option maxHeartbeats 4000000 in
set_option maxRecDepth 20000 in
theorem c_Draws_anAnswer {l : Launch} {τ : TP} {o : Int} {r1 : Int} {h : HP} {r : Int} {h' : HP} (hw : wf τ) (ao : ok τ (4, 0) o) (ar1 : ok τ (4, 3) r1) (hh : hr τ h) (hF : m_Draws_anAnswer o r1 h = some (r, h')) : Ctr l y_Draws_anAnswer k_Draws_anAnswer 5 (Option.some FieldType.int) 1 21 τ (fun ad => [vR ad o, vR ad r1]) h (some (vI r)) h' (inR r) := by
  refine ctr_of (by decide) hw hh (fun ad => Nat.le_of_ble_eq_true rfl) (fun ad K Y I hK => ?_)
  obtain ⟨G0, hG0⟩ : ∃ G : Int × HP → Prop, G = fun x => x = (r, h') := ⟨_, rfl⟩
  have gk0 : ∀ (x : Int) (y : HP), G0 (x, y) → inR x → K (some (vI x)) y := fun x y g q => by
    rw [hG0] at g
    cases g
    exact hK q
  have L14 : ∀ (x2 : Int) (ax2 : inR x2) (h : HP) (s : Int × Int), (inR (s.1) ∧ inR (s.2)) → Z Y (m_Draws_anAnswer_L14 r1 x2 h s) G0 h 14 [(1, vR ad r1), (2, vI x2), (3, vI (s.1)), (4, vI (s.2))] [] := by
    intro x2 ax2 h s hs
    refine z_loop (G := G0) (hO := fun s : Int × Int => h) (lO := fun s : Int × Int => [(1, vR ad r1), (2, vI x2), (3, vI (s.1)), (4, vI (s.2))]) (Φ := fun s : Int × Int => inR (s.1) ∧ inR (s.2)) (fun G1 hin1_1 hout1 s hs => ?_) FUEL s hs
    obtain ⟨x3, x4⟩ := s
    obtain ⟨ax3, ax4⟩ := hs
    have gk1 := fun (x : Int) (y : HP) (g : G1 (.inr ((x, y)))) (q : inR x) => gk0 x y (hout1 _ g) q
    show Z Y (m_Draws_anAnswer_L14b r1 x2 h x3 x4) G1 h 14 [(1, vR ad r1), (2, vI x2), (3, vI x3), (4, vI x4)] []
    unfold m_Draws_anAnswer_L14b
    refine z_s I (s_iload (pc' := 16) 3 rfl D_Draws_anAnswer_0.2.1.1.2 rfl) ?_
    refine z_s I (s_iconst (pc' := 17) D_Draws_anAnswer_0.2.1.2.1 rfl) ?_
    refine z_icmp_ge (tgt := 44) (pc' := 20) I ax4 (inR_c (x := 4) rfl) D_Draws_anAnswer_0.2.1.2.2 rfl rfl (fun c1 => ?_) (fun c1 => ?_)
    · refine z_s I (s_iconst (pc' := 45) D_Draws_anAnswer_1.2.2.2.1 rfl) ?_
      exact z_ret (w := some (vI 3)) I (fun g => gk1 _ _ g (inR_c (x := 3) rfl)) ⟨_, rfl⟩ D_Draws_anAnswer_1.2.2.2.2 rfl
    · refine z_s I (s_iload_n (pc' := 21) 2 rfl D_Draws_anAnswer_0.2.2.1.1 rfl rfl) ?_
      refine z_s I (s_aload_n (pc' := 22) 0 rfl D_Draws_anAnswer_0.2.2.1.2 rfl rfl) ?_
      refine z_getR (pc' := 25) (eI := r1 + 1) I g_Draws_45 ar1 rfl (by omega) D_Draws_anAnswer_0.2.2.2.1 rfl ?_
      have k2 : ok τ (0, 4) (r1 + 1) := r_Odds_shares hw ar1 (by omega)
      refine z_s I (s_iload (pc' := 27) 3 rfl D_Draws_anAnswer_0.2.2.2.2 rfl) ?_
      refine z_iald (pc' := 28) (nI := 4) I k2 ax4 rfl D_Draws_anAnswer_1.1.1.1 rfl (fun c3 f4 => ?_)
      refine z_s I (s_iadd (pc' := 29) D_Draws_anAnswer_1.1.1.2.1 rfl) ?_
      refine z_bI (inR_w32 _) (fun v5 e6 f7 => ?_)
      refine z_s I (s_istore_n (pc' := 30) (lv' := [(3, vI v5), (1, vR ad r1), (2, vI x2), (4, vI x4)]) D_Draws_anAnswer_1.1.1.2.2 rfl (by decide) rfl rfl) ?_
      refine z_s I (s_iload_n (pc' := 31) 0 rfl D_Draws_anAnswer_1.1.2.1 rfl rfl) ?_
      refine z_s I (s_iload_n (pc' := 32) 2 rfl D_Draws_anAnswer_1.1.2.2.1 rfl rfl) ?_
      refine z_icmp_le (tgt := 38) (pc' := 35) I f7 ax2 D_Draws_anAnswer_1.1.2.2.2 rfl rfl (fun c8 => ?_) (fun c8 => ?_)
      · refine z_s I (s_iinc (pc' := 41) (lv' := [(4, vI (w32 (x4 + 1))), (3, vI v5), (1, vR ad r1), (2, vI x2)]) (n := 3) rfl D_Draws_anAnswer_1.2.1.2.2 (by decide) rfl rfl) ?_
        refine z_s I (s_goto (tgt := 14) D_Draws_anAnswer_1.2.2.1 rfl) ?_
        refine z_s I (s_lv (lv' := [(1, vR ad r1), (2, vI x2), (3, vI v5), (4, vI (w32 (x4 + 1)))]) [2, 3, 1, 0] rfl) ?_
        exact z_end (fun g => hin1_1 _ g ⟨f7, (inR_w32 _)⟩)
      · refine z_s I (s_iload (pc' := 37) 3 rfl D_Draws_anAnswer_1.2.1.1 rfl) ?_
        exact z_ret (w := some (vI x4)) I (fun g => gk1 _ _ g ax4) ⟨_, rfl⟩ D_Draws_anAnswer_1.2.1.2.1 rfl
  have main : Z Y (m_Draws_anAnswer o r1 h) G0 h 0 [(0, vR ad o), (1, vR ad r1)] [] := by
    unfold m_Draws_anAnswer
    refine z_s I (s_aload_n (pc' := 1) 0 rfl D_Draws_anAnswer_0.1.1.1.1 rfl rfl) ?_
    refine z_s I (s_aload_n (pc' := 2) 1 rfl D_Draws_anAnswer_0.1.1.1.2 rfl rfl) ?_
    refine z_getI (pc' := 5) (jI := 1) I g_Draws_38 ar1 rfl rfl D_Draws_anAnswer_0.1.1.2.1 rfl (fun f9 => ?_)
    refine z_b2 (fun r12 h13 q11 => ?_)
    refine z_callV (pc' := 8) I mv_Draws_below ml_Draws_41 (fun ad => [vI (h r1 1)]) ⟨Nat.le_of_ble_eq_true rfl, Nat.le_of_ble_eq_true rfl⟩ ao (fun hh => c_Draws_below hw ao f9 hh q11) rfl rfl (Nat.le_of_ble_eq_true rfl) D_Draws_anAnswer_0.1.1.2.2 rfl (fun f10 => ?_)
    refine z_s I (s_istore_n (pc' := 9) (lv' := [(2, vI r12), (0, vR ad o), (1, vR ad r1)]) D_Draws_anAnswer_0.1.2.1.1 rfl (by decide) rfl rfl) ?_
    refine z_s I (s_iconst (pc' := 10) D_Draws_anAnswer_0.1.2.1.2 rfl) ?_
    refine z_s I (s_istore_n (pc' := 11) (lv' := [(3, vI 0), (2, vI r12), (0, vR ad o), (1, vR ad r1)]) D_Draws_anAnswer_0.1.2.2.1 rfl (by decide) rfl rfl) ?_
    refine z_s I (s_iconst (pc' := 12) D_Draws_anAnswer_0.1.2.2.2 rfl) ?_
    refine z_s I (s_istore (pc' := 14) (lv' := [(4, vI 0), (3, vI 0), (2, vI r12), (0, vR ad o), (1, vR ad r1)]) D_Draws_anAnswer_0.2.1.1.1 (by decide) rfl rfl) ?_
    refine z_s I (s_lv (lv' := [(1, vR ad r1), (2, vI r12), (3, vI 0), (4, vI 0)]) [4, 2, 1, 0] rfl) ?_
    exact L14 _ f10 _ _ ⟨(b01.R bz0), (b01.R bz0)⟩
  exact main _ hF (by rw [hG0])
set_option maxHeartbeats 4000000 in
set_option maxRecDepth 20000 in
theorem c_Draws_likeness {l : Launch} {τ : TP} {o : Int} {r1 : Int} {r2 : Int} {x3 : Int} {x4 : Int} {x5 : Int} {h : HP} {r : Int} {h' : HP} (hw : wf τ) (ao : ok τ (4, 0) o) (ar1 : ok τ (4, 1) r1) (ar2 : ok τ (4, 3) r2) (ax3 : inR x3) (ax4 : inR x4) (ax5 : inR x5) (hh : hr τ h) (hF : m_Draws_likeness o r1 r2 x3 x4 x5 h = some (r, h')) : Ctr l y_Draws_likeness k_Draws_likeness 10 (Option.some FieldType.int) 2 52 τ (fun ad => [vR ad o, vR ad r1, vR ad r2, vI x3, vI x4, vI x5]) h (some (vI r)) h' (inR r) := by
  refine ctr_of (by decide) hw hh (fun ad => Nat.le_of_ble_eq_true rfl) (fun ad K Y I hK => ?_)
  obtain ⟨G0, hG0⟩ : ∃ G : Int × HP → Prop, G = fun x => x = (r, h') := ⟨_, rfl⟩
  have gk0 : ∀ (x : Int) (y : HP), G0 (x, y) → inR x → K (some (vI x)) y := fun x y g q => by
    rw [hG0] at g
    cases g
    exact hK q
  have L11 : ∀ (s : Int × Int × HP), (inR (s.1) ∧ inR (s.2.1)) → Z Y (m_Draws_likeness_L11 o r1 r2 x4 x5 s) G0 (s.2.2) 11 [(0, vR ad o), (1, vR ad r1), (2, vR ad r2), (4, vI x4), (5, vI x5), (6, vI (s.1)), (7, vI (s.2.1))] [] := by
    intro s hs
    refine z_loop (G := G0) (hO := fun s : Int × Int × HP => s.2.2) (lO := fun s : Int × Int × HP => [(0, vR ad o), (1, vR ad r1), (2, vR ad r2), (4, vI x4), (5, vI x5), (6, vI (s.1)), (7, vI (s.2.1))]) (Φ := fun s : Int × Int × HP => inR (s.1) ∧ inR (s.2.1)) (fun G1 hin1_1 hout1 s hs => ?_) FUEL s hs
    obtain ⟨x6, x7, h⟩ := s
    obtain ⟨ax6, ax7⟩ := hs
    have gk1 := fun (x : Int) (y : HP) (g : G1 (.inr ((x, y)))) (q : inR x) => gk0 x y (hout1 _ g) q
    show Z Y (m_Draws_likeness_L11b o r1 r2 x4 x5 x6 x7 h) G1 h 11 [(0, vR ad o), (1, vR ad r1), (2, vR ad r2), (4, vI x4), (5, vI x5), (6, vI x6), (7, vI x7)] []
    unfold m_Draws_likeness_L11b
    refine z_s I (s_iload (pc' := 13) 6 rfl D_Draws_likeness_0.1.2.2.2 rfl) ?_
    refine z_s I (s_aload_n (pc' := 14) 1 rfl D_Draws_likeness_0.2.1.1.1 rfl rfl) ?_
    refine z_getI (pc' := 17) (jI := 0) I g_Draws_15 ar1 rfl rfl D_Draws_likeness_0.2.1.1.2 rfl (fun f1 => ?_)
    refine z_icmp_ge (tgt := 84) (pc' := 20) I ax7 f1 D_Draws_likeness_0.2.1.2.1 rfl rfl (fun c2 => ?_) (fun c2 => ?_)
    · refine z_s I (s_iload (pc' := 86) 5 rfl D_Draws_likeness_2.2.2.2.1 rfl) ?_
      exact z_ret (w := some (vI x6)) I (fun g => gk1 _ _ g ax6) ⟨_, rfl⟩ D_Draws_likeness_2.2.2.2.2 rfl
    · refine z_s I (s_aload_n (pc' := 21) 1 rfl D_Draws_likeness_0.2.1.2.2 rfl rfl) ?_
      refine z_s I (s_iload (pc' := 23) 6 rfl D_Draws_likeness_0.2.2.1.1 rfl) ?_
      refine z_s I (s_iload (pc' := 25) 3 rfl D_Draws_likeness_0.2.2.1.2 rfl) ?_
      refine z_s I (s_iload (pc' := 27) 4 rfl D_Draws_likeness_0.2.2.2.1 rfl) ?_
      refine z_b1 (fun r5 q4 => ?_)
      refine z_callV (pc' := 30) I mv_Exam_bothGave ml_Draws_20 (fun ad => [vI x7, vI x4, vI x5]) ⟨Nat.le_of_ble_eq_true rfl, Nat.le_of_ble_eq_true rfl⟩ ar1 (fun hh => c_Exam_bothGave hw ar1 ax7 ax4 ax5 hh q4) rfl rfl (Nat.le_of_ble_eq_true rfl) D_Draws_likeness_0.2.2.2.2 rfl (fun f3 => ?_)
      refine z_if_eq (tgt := 78) (pc' := 33) I (b01.R f3) D_Draws_likeness_1.1.1.1.1 rfl rfl (fun c6 => ?_) (fun c6 => ?_)
      · refine z_s I (s_iinc (pc' := 81) (lv' := [(7, vI (w32 (x7 + 1))), (0, vR ad o), (1, vR ad r1), (2, vR ad r2), (4, vI x4), (5, vI x5), (6, vI x6)]) (n := 6) rfl D_Draws_likeness_2.2.2.1.1 (by decide) rfl rfl) ?_
        refine z_s I (s_goto (tgt := 11) D_Draws_likeness_2.2.2.1.2 rfl) ?_
        refine z_s I (s_lv (lv' := [(0, vR ad o), (1, vR ad r1), (2, vR ad r2), (4, vI x4), (5, vI x5), (6, vI x6), (7, vI (w32 (x7 + 1)))]) [1, 2, 3, 4, 5, 6, 0] rfl) ?_
        exact z_end (fun g => hin1_1 _ g ⟨ax6, (inR_w32 _)⟩)
      · refine z_s I (s_aload_n (pc' := 34) 2 rfl D_Draws_likeness_1.1.1.1.2 rfl rfl) ?_
        refine z_s I (s_aload_n (pc' := 35) 1 rfl D_Draws_likeness_1.1.1.2.1 rfl rfl) ?_
        refine z_s I (s_iload (pc' := 37) 6 rfl D_Draws_likeness_1.1.1.2.2 rfl) ?_
        refine z_s I (s_iload (pc' := 39) 3 rfl D_Draws_likeness_1.1.2.1.1 rfl) ?_
        refine z_s I (s_iload (pc' := 41) 4 rfl D_Draws_likeness_1.1.2.1.2 rfl) ?_
        refine z_b1 (fun h9 q8 => ?_)
        refine z_callV (pc' := 44) I mv_Odds_takeShares ml_Draws_24 (fun ad => [vR ad r1, vI x7, vI x4, vI x5]) ⟨Nat.le_of_ble_eq_true rfl, Nat.le_of_ble_eq_true rfl⟩ ar2 (fun hh => c_Odds_takeShares hw ar2 ar1 ax7 ax4 ax5 hh q8) rfl rfl (Nat.le_of_ble_eq_true rfl) D_Draws_likeness_1.1.2.2.1 rfl (fun f7 => ?_)
        refine z_s I (s_aload_n (pc' := 45) 0 rfl D_Draws_likeness_1.1.2.2.2 rfl rfl) ?_
        refine z_s I (s_aload_n (pc' := 46) 2 rfl D_Draws_likeness_1.2.1.1.1 rfl rfl) ?_
        refine z_b2 (fun r12 h13 q11 => ?_)
        refine z_callV (pc' := 49) I mv_Draws_anAnswer ml_Draws_30 (fun ad => [vR ad r2]) ⟨Nat.le_of_ble_eq_true rfl, Nat.le_of_ble_eq_true rfl⟩ ao (fun hh => c_Draws_anAnswer hw ao ar2 hh q11) rfl rfl (Nat.le_of_ble_eq_true rfl) D_Draws_likeness_1.2.1.1.2 rfl (fun f10 => ?_)
        refine z_s I (s_istore (pc' := 51) (lv' := [(8, vI r12), (0, vR ad o), (1, vR ad r1), (2, vR ad r2), (4, vI x4), (5, vI x5), (6, vI x6), (7, vI x7)]) D_Draws_likeness_1.2.1.2.1 (by decide) rfl rfl) ?_
        refine z_s I (s_aload_n (pc' := 52) 1 rfl D_Draws_likeness_1.2.1.2.2 rfl rfl) ?_
        refine z_s I (s_aload_n (pc' := 53) 3 rfl D_Draws_likeness_1.2.2.1.1 rfl rfl) ?_
        refine z_b2 (fun r16 h17 q15 => ?_)
        refine z_callV (pc' := 56) I mv_Draws_anAnswer ml_Draws_30 (fun ad => [vR ad r2]) ⟨Nat.le_of_ble_eq_true rfl, Nat.le_of_ble_eq_true rfl⟩ ao (fun hh => c_Draws_anAnswer hw ao ar2 hh q15) rfl rfl (Nat.le_of_ble_eq_true rfl) D_Draws_likeness_1.2.2.1.2 rfl (fun f14 => ?_)
        refine z_s I (s_istore (pc' := 58) (lv' := [(9, vI r16), (8, vI r12), (0, vR ad o), (1, vR ad r1), (2, vR ad r2), (4, vI x4), (5, vI x5), (6, vI x6), (7, vI x7)]) D_Draws_likeness_1.2.2.2.1 (by decide) rfl rfl) ?_
        refine z_s I (s_iload (pc' := 60) 1 rfl D_Draws_likeness_1.2.2.2.2 rfl) ?_
        refine z_s I (s_iload (pc' := 62) 0 rfl D_Draws_likeness_2.1.1.1 rfl) ?_
        refine z_icmp_ne (tgt := 78) (pc' := 65) I f10 f14 D_Draws_likeness_2.1.1.2.1 rfl rfl (fun c18 => ?_) (fun c18 => ?_)
        · refine z_s I (s_iinc (pc' := 81) (lv' := [(7, vI (w32 (x7 + 1))), (9, vI r16), (8, vI r12), (0, vR ad o), (1, vR ad r1), (2, vR ad r2), (4, vI x4), (5, vI x5), (6, vI x6)]) (n := 8) rfl D_Draws_likeness_2.2.2.1.1 (by decide) rfl rfl) ?_
          refine z_s I (s_goto (tgt := 11) D_Draws_likeness_2.2.2.1.2 rfl) ?_
          refine z_s I (s_lv (lv' := [(0, vR ad o), (1, vR ad r1), (2, vR ad r2), (4, vI x4), (5, vI x5), (6, vI x6), (7, vI (w32 (x7 + 1)))]) [3, 4, 5, 6, 7, 8, 0] rfl) ?_
          exact z_end (fun g => hin1_1 _ g ⟨ax6, (inR_w32 _)⟩)
        · refine z_s I (s_iload (pc' := 67) 7 rfl D_Draws_likeness_2.1.1.2.2 rfl) ?_
          refine z_s I (s_aload_n (pc' := 68) 3 rfl D_Draws_likeness_2.1.2.1 rfl rfl) ?_
          refine z_s I (s_iload (pc' := 70) 8 rfl D_Draws_likeness_2.1.2.2.1 rfl) ?_
          refine z_s I (s_iload (pc' := 72) 1 rfl D_Draws_likeness_2.1.2.2.2 rfl) ?_
          refine z_b1 (fun r21 q20 => ?_)
          refine z_callV (pc' := 75) I mv_Exam_worth ml_Draws_34 (fun ad => [vI x7, vI r12]) ⟨Nat.le_of_ble_eq_true rfl, Nat.le_of_ble_eq_true rfl⟩ ar1 (fun hh => c_Exam_worth hw ar1 ax7 f10 hh q20) rfl rfl (Nat.le_of_ble_eq_true rfl) D_Draws_likeness_2.2.1.1 rfl (fun f19 => ?_)
          refine z_s I (s_iadd (pc' := 76) D_Draws_likeness_2.2.1.2.1 rfl) ?_
          refine z_bI (inR_w32 _) (fun v22 e23 f24 => ?_)
          refine z_s I (s_istore (pc' := 78) (lv' := [(6, vI v22), (9, vI r16), (8, vI r12), (0, vR ad o), (1, vR ad r1), (2, vR ad r2), (4, vI x4), (5, vI x5), (7, vI x7)]) D_Draws_likeness_2.2.1.2.2 (by decide) rfl rfl) ?_
          refine z_s I (s_iinc (pc' := 81) (lv' := [(7, vI (w32 (x7 + 1))), (6, vI v22), (9, vI r16), (8, vI r12), (0, vR ad o), (1, vR ad r1), (2, vR ad r2), (4, vI x4), (5, vI x5)]) (n := 8) rfl D_Draws_likeness_2.2.2.1.1 (by decide) rfl rfl) ?_
          refine z_s I (s_goto (tgt := 11) D_Draws_likeness_2.2.2.1.2 rfl) ?_
          refine z_s I (s_lv (lv' := [(0, vR ad o), (1, vR ad r1), (2, vR ad r2), (4, vI x4), (5, vI x5), (6, vI v22), (7, vI (w32 (x7 + 1)))]) [4, 5, 6, 7, 8, 1, 0] rfl) ?_
          exact z_end (fun g => hin1_1 _ g ⟨f24, (inR_w32 _)⟩)
  have main : Z Y (m_Draws_likeness o r1 r2 x3 x4 x5 h) G0 h 0 [(0, vR ad o), (1, vR ad r1), (2, vR ad r2), (3, vI x3), (4, vI x4), (5, vI x5)] [] := by
    unfold m_Draws_likeness
    refine z_s I (s_aload_n (pc' := 1) 0 rfl D_Draws_likeness_0.1.1.1.1 rfl rfl) ?_
    refine z_s I (s_iload_n (pc' := 2) 3 rfl D_Draws_likeness_0.1.1.1.2 rfl rfl) ?_
    refine z_putI (pc' := 5) (jI := 0) I p_Draws_9 ao rfl rfl ax3 D_Draws_likeness_0.1.1.2.1 rfl ?_
    refine z_bH (fun h25 e26 => ?_)
    refine z_s I (s_iconst (pc' := 6) D_Draws_likeness_0.1.1.2.2 rfl) ?_
    refine z_s I (s_istore (pc' := 8) (lv' := [(6, vI 0), (0, vR ad o), (1, vR ad r1), (2, vR ad r2), (3, vI x3), (4, vI x4), (5, vI x5)]) D_Draws_likeness_0.1.2.1.1 (by decide) rfl rfl) ?_
    refine z_s I (s_iconst (pc' := 9) D_Draws_likeness_0.1.2.1.2 rfl) ?_
    refine z_s I (s_istore (pc' := 11) (lv' := [(7, vI 0), (6, vI 0), (0, vR ad o), (1, vR ad r1), (2, vR ad r2), (3, vI x3), (4, vI x4), (5, vI x5)]) D_Draws_likeness_0.1.2.2.1 (by decide) rfl rfl) ?_
    refine z_s I (s_lv (lv' := [(0, vR ad o), (1, vR ad r1), (2, vR ad r2), (4, vI x4), (5, vI x5), (6, vI 0), (7, vI 0)]) [2, 3, 4, 6, 7, 1, 0] rfl) ?_
    exact L11 _ ⟨(b01.R bz0), (b01.R bz0)⟩
  exact main _ hF (by rw [hG0])
set_option maxHeartbeats 4000000 in
set_option maxRecDepth 20000 in
theorem c_Cb_drawn {l : Launch} {τ : TP} {o : Int} {x1 : Int} {x2 : Int} {x3 : Int} {h : HP} {r : Int} {h' : HP} (hw : wf τ) (ao : ok τ (4, 9) o) (ax1 : inR x1) (ax2 : inR x2) (ax3 : inR x3) (hh : hr τ h) (hF : m_Cb_drawn o x1 x2 x3 h = some (r, h')) : Ctr l y_Cb_drawn k_Cb_drawn 4 (Option.some FieldType.int) 3 81 τ (fun ad => [vR ad o, vI x1, vI x2, vI x3]) h (some (vI r)) h' (inR r) := by
  refine ctr_of (by decide) hw hh (fun ad => Nat.le_of_ble_eq_true rfl) (fun ad K Y I hK => ?_)
  obtain ⟨G0, hG0⟩ : ∃ G : Int × HP → Prop, G = fun x => x = (r, h') := ⟨_, rfl⟩
  have gk0 : ∀ (x : Int) (y : HP), G0 (x, y) → inR x → K (some (vI x)) y := fun x y g q => by
    rw [hG0] at g
    cases g
    exact hK q
  have main : Z Y (m_Cb_drawn o x1 x2 x3 h) G0 h 0 [(0, vR ad o), (1, vI x1), (2, vI x2), (3, vI x3)] [] := by
    unfold m_Cb_drawn
    refine z_s I (s_aload_n (pc' := 1) 0 rfl D_Cb_drawn_0.1.1.1.1 rfl rfl) ?_
    refine z_getR (pc' := 4) (eI := o + 1) I g_Cb_12 ao rfl (by omega) D_Cb_drawn_0.1.1.1.2 rfl ?_
    have k1 : ok τ (4, 1) (o + 1) := r_Cb_now hw ao (by omega)
    refine z_s I (s_iload_n (pc' := 5) 2 rfl D_Cb_drawn_0.1.1.2.1 rfl rfl) ?_
    refine z_s I (s_iload_n (pc' := 6) 3 rfl D_Cb_drawn_0.1.1.2.2 rfl rfl) ?_
    refine z_b1 (fun r4 q3 => ?_)
    refine z_callV (pc' := 9) I mv_Exam_hasTwo ml_Cb_193 (fun ad => [vI x2, vI x3]) ⟨Nat.le_of_ble_eq_true rfl, Nat.le_of_ble_eq_true rfl⟩ k1 (fun hh => c_Exam_hasTwo hw k1 ax2 ax3 hh q3) rfl rfl (Nat.le_of_ble_eq_true rfl) D_Cb_drawn_0.1.2.1.1 rfl (fun f2 => ?_)
    refine z_if_eq (tgt := 33) (pc' := 12) I (b01.R f2) D_Cb_drawn_0.1.2.1.2 rfl rfl (fun c5 => ?_) (fun c5 => ?_)
    · refine z_s I (s_iconst (pc' := 34) D_Cb_drawn_1.2.1 rfl) ?_
      exact z_ret (w := some (vI (-1))) I (fun g => gk0 _ _ g (inR_c (x := (-1)) rfl)) ⟨_, rfl⟩ D_Cb_drawn_1.2.2 rfl
    · refine z_s I (s_aload_n (pc' := 13) 0 rfl D_Cb_drawn_0.1.2.2.1 rfl rfl) ?_
      refine z_getR (pc' := 16) (eI := o + 113) I g_Cb_82 ao rfl (by omega) D_Cb_drawn_0.1.2.2.2 rfl ?_
      have k6 : ok τ (4, 0) (o + 113) := r_Cb_draws hw ao (by omega)
      refine z_s I (s_aload_n (pc' := 17) 0 rfl D_Cb_drawn_0.2.1.1.1 rfl rfl) ?_
      refine z_getR (pc' := 20) (eI := o + 1) I g_Cb_12 ao rfl (by omega) D_Cb_drawn_0.2.1.1.2 rfl ?_
      have k7 : ok τ (4, 1) (o + 1) := r_Cb_now hw ao (by omega)
      refine z_s I (s_aload_n (pc' := 21) 0 rfl D_Cb_drawn_0.2.1.2.1 rfl rfl) ?_
      refine z_getR (pc' := 24) (eI := o + 94) I g_Cb_44 ao rfl (by omega) D_Cb_drawn_0.2.1.2.2 rfl ?_
      have k8 : ok τ (4, 3) (o + 94) := r_Cb_odds hw ao (by omega)
      refine z_s I (s_iload_n (pc' := 25) 1 rfl D_Cb_drawn_0.2.2.1.1 rfl rfl) ?_
      refine z_s I (s_iload_n (pc' := 26) 2 rfl D_Cb_drawn_0.2.2.1.2 rfl rfl) ?_
      refine z_s I (s_iload_n (pc' := 27) 3 rfl D_Cb_drawn_0.2.2.2.1 rfl rfl) ?_
      refine z_b2 (fun r11 h12 q10 => ?_)
      refine z_callV (pc' := 30) I mv_Draws_likeness ml_Cb_293 (fun ad => [vR ad (o + 1), vR ad (o + 94), vI x1, vI x2, vI x3]) ⟨Nat.le_of_ble_eq_true rfl, Nat.le_of_ble_eq_true rfl⟩ k6 (fun hh => c_Draws_likeness hw k6 k7 k8 ax1 ax2 ax3 hh q10) rfl rfl (Nat.le_of_ble_eq_true rfl) D_Cb_drawn_0.2.2.2.2 rfl (fun f9 => ?_)
      refine z_s I (s_goto (tgt := 34) D_Cb_drawn_1.1 rfl) ?_
      exact z_ret (w := some (vI r11)) I (fun g => gk0 _ _ g f9) ⟨_, rfl⟩ D_Cb_drawn_1.2.2 rfl
  exact main _ hF (by rw [hG0])
set_option maxHeartbeats 4000000 in
set_option maxRecDepth 20000 in
theorem c_Cb_chance {l : Launch} {τ : TP} {o : Int} {x1 : Int} {x2 : Int} {x3 : Int} {x4 : Int} {x5 : Int} {h : HP} {r : Int} {h' : HP} (hw : wf τ) (ao : ok τ (4, 9) o) (ax1 : inR x1) (ax2 : inR x2) (ax3 : inR x3) (ax4 : inR x4) (ax5 : inR x5) (hh : hr τ h) (hF : m_Cb_chance o x1 x2 x3 x4 x5 h = some (r, h')) : Ctr l y_Cb_chance k_Cb_chance 8 (Option.some FieldType.long) 3 81 τ (fun ad => [vR ad o, vI x1, vI x2, vI x3, vI x4, vI x5]) h (some (vL r)) h' (inL r) := by
  refine ctr_of (by decide) hw hh (fun ad => Nat.le_of_ble_eq_true rfl) (fun ad K Y I hK => ?_)
  obtain ⟨G0, hG0⟩ : ∃ G : Int × HP → Prop, G = fun x => x = (r, h') := ⟨_, rfl⟩
  have gk0 : ∀ (x : Int) (y : HP), G0 (x, y) → inL x → K (some (vL x)) y := fun x y g q => by
    rw [hG0] at g
    cases g
    exact hK q
  have J77 : ∀ (x6 : Int) (ax6 : inR x6) (h : HP), Z Y (m_Cb_chance_J77 o x5 x6 h) G0 h 77 [(0, vR ad o), (5, vI x5), (6, vI x6)] [] := by
    intro x6 ax6 h
    unfold m_Cb_chance_J77
    refine z_s I (s_aload_n (pc' := 78) 0 rfl D_Cb_chance_2.1.2.1.2 rfl rfl) ?_
    refine z_getR (pc' := 81) (eI := o + 97) I g_Cb_51 ao rfl (by omega) D_Cb_chance_2.1.2.2.1 rfl ?_
    have k1 : ok τ (4, 5) (o + 97) := r_Cb_first hw ao (by omega)
    refine z_s I (s_iload (pc' := 83) 2 rfl D_Cb_chance_2.1.2.2.2 rfl) ?_
    refine z_s I (s_i2l (pc' := 84) ax6 D_Cb_chance_2.2.1.1.1 rfl) ?_
    refine z_ldc2 (pc' := 87) (x := 6) I cl_Cb_296 (by decide +kernel) D_Cb_chance_2.2.1.1.2 rfl ?_
    refine z_b1 (fun h4 q3 => ?_)
    refine z_callV (pc' := 90) I mv_Ratio_put ml_Cb_298 (fun ad => [vL x6, vL 6]) ⟨Nat.le_of_ble_eq_true rfl, Nat.le_of_ble_eq_true rfl⟩ k1 (fun hh => c_Ratio_put hw k1 (ax6).L (inL_c (x := 6) rfl) hh q3) rfl rfl (Nat.le_of_ble_eq_true rfl) D_Cb_chance_2.2.1.2.1 rfl (fun f2 => ?_)
    refine z_s I (s_aload_n (pc' := 91) 0 rfl D_Cb_chance_2.2.1.2.2 rfl rfl) ?_
    refine z_getR (pc' := 94) (eI := o + 97) I g_Cb_51 ao rfl (by omega) D_Cb_chance_2.2.2.1.1 rfl ?_
    have k5 : ok τ (4, 5) (o + 97) := r_Cb_first hw ao (by omega)
    refine z_s I (s_iload (pc' := 96) 1 rfl D_Cb_chance_2.2.2.1.2 rfl) ?_
    refine z_b1 (fun r8 q7 => ?_)
    refine z_callV (pc' := 99) I mv_Ratio_half ml_Cb_225 (fun ad => [vI x5]) ⟨Nat.le_of_ble_eq_true rfl, Nat.le_of_ble_eq_true rfl⟩ k5 (fun hh => c_Ratio_half hw k5 ax5 hh q7) rfl rfl (Nat.le_of_ble_eq_true rfl) D_Cb_chance_2.2.2.2.1 rfl (fun f6 => ?_)
    exact z_ret (w := some (vL r8)) I (fun g => gk0 _ _ g f6) ⟨_, rfl⟩ D_Cb_chance_2.2.2.2.2 rfl
  have L35 : ∀ (s : Int × Int × HP), (inR (s.1) ∧ inR (s.2.1)) → Z Y (m_Cb_chance_L35 o x1 x2 x3 x4 x5 s) G0 (s.2.2) 35 [(0, vR ad o), (1, vI x1), (2, vI x2), (3, vI x3), (4, vI x4), (5, vI x5), (6, vI (s.1)), (7, vI (s.2.1))] [] := by
    intro s hs
    refine z_loop (G := G0) (hO := fun s : Int × Int × HP => s.2.2) (lO := fun s : Int × Int × HP => [(0, vR ad o), (1, vI x1), (2, vI x2), (3, vI x3), (4, vI x4), (5, vI x5), (6, vI (s.1)), (7, vI (s.2.1))]) (Φ := fun s : Int × Int × HP => inR (s.1) ∧ inR (s.2.1)) (fun G1 hin1_1 hout1 s hs => ?_) FUEL s hs
    obtain ⟨x6, x7, h⟩ := s
    obtain ⟨ax6, ax7⟩ := hs
    have gk1 := fun (x : Int) (y : HP) (g : G1 (.inr ((x, y)))) (q : inL x) => gk0 x y (hout1 _ g) q
    show Z Y (m_Cb_chance_L35b o x1 x2 x3 x4 x5 x6 x7 h) G1 h 35 [(0, vR ad o), (1, vI x1), (2, vI x2), (3, vI x3), (4, vI x4), (5, vI x5), (6, vI x6), (7, vI x7)] []
    unfold m_Cb_chance_L35b
    refine z_s I (s_iload (pc' := 37) 7 rfl D_Cb_chance_1.1.1.1.2 rfl) ?_
    refine z_s I (s_bipush (pc' := 39) D_Cb_chance_1.1.1.2.1 rfl rfl) ?_
    refine z_icmp_ge (tgt := 77) (pc' := 42) I ax7 (inR_c (x := 6) rfl) D_Cb_chance_1.1.1.2.2 rfl rfl (fun c9 => ?_) (fun c9 => ?_)
    · refine z_map _ (fun x g => hout1 x g) ?_
      refine z_s I (s_lv (lv' := [(0, vR ad o), (5, vI x5), (6, vI x6)]) [0, 5, 6] rfl) ?_
      exact J77 _ ax6 _
    · refine z_s I (s_aload_n (pc' := 43) 0 rfl D_Cb_chance_1.1.2.1.1 rfl rfl) ?_
      refine z_getR (pc' := 46) (eI := o + 113) I g_Cb_82 ao rfl (by omega) D_Cb_chance_1.1.2.1.2 rfl ?_
      have k10 : ok τ (4, 0) (o + 113) := r_Cb_draws hw ao (by omega)
      refine z_s I (s_aload_n (pc' := 47) 0 rfl D_Cb_chance_1.1.2.2.1 rfl rfl) ?_
      refine z_getR (pc' := 50) (eI := o + 1) I g_Cb_12 ao rfl (by omega) D_Cb_chance_1.1.2.2.2 rfl ?_
      have k11 : ok τ (4, 1) (o + 1) := r_Cb_now hw ao (by omega)
      refine z_s I (s_aload_n (pc' := 51) 0 rfl D_Cb_chance_1.2.1.1.1 rfl rfl) ?_
      refine z_getR (pc' := 54) (eI := o + 94) I g_Cb_44 ao rfl (by omega) D_Cb_chance_1.2.1.1.2 rfl ?_
      have k12 : ok τ (4, 3) (o + 94) := r_Cb_odds hw ao (by omega)
      refine z_s I (s_iload_n (pc' := 55) 1 rfl D_Cb_chance_1.2.1.2.1 rfl rfl) ?_
      refine z_s I (s_iload (pc' := 57) 7 rfl D_Cb_chance_1.2.1.2.2 rfl) ?_
      refine z_s I (s_iadd (pc' := 58) D_Cb_chance_1.2.2.1.1 rfl) ?_
      refine z_s I (s_iload_n (pc' := 59) 2 rfl D_Cb_chance_1.2.2.1.2 rfl rfl) ?_
      refine z_s I (s_iload_n (pc' := 60) 3 rfl D_Cb_chance_1.2.2.2.1 rfl rfl) ?_
      refine z_b2 (fun r15 h16 q14 => ?_)
      refine z_callV (pc' := 63) I mv_Draws_likeness ml_Cb_293 (fun ad => [vR ad (o + 1), vR ad (o + 94), vI (w32 (x1 + x7)), vI x2, vI x3]) ⟨Nat.le_of_ble_eq_true rfl, Nat.le_of_ble_eq_true rfl⟩ k10 (fun hh => c_Draws_likeness hw k10 k11 k12 (inR_w32 _) ax2 ax3 hh q14) rfl rfl (Nat.le_of_ble_eq_true rfl) D_Cb_chance_1.2.2.2.2 rfl (fun f13 => ?_)
      refine z_s I (s_iload (pc' := 65) 4 rfl D_Cb_chance_2.1.1.1.1 rfl) ?_
      refine z_icmp_lt (tgt := 71) (pc' := 68) I f13 ax4 D_Cb_chance_2.1.1.1.2 rfl rfl (fun c17 => ?_) (fun c17 => ?_)
      · refine z_s I (s_iinc (pc' := 74) (lv' := [(7, vI (w32 (x7 + 1))), (0, vR ad o), (1, vI x1), (2, vI x2), (3, vI x3), (4, vI x4), (5, vI x5), (6, vI x6)]) (n := 7) rfl D_Cb_chance_2.1.1.2.2 (by decide) rfl rfl) ?_
        refine z_s I (s_goto (tgt := 35) D_Cb_chance_2.1.2.1.1 rfl) ?_
        refine z_s I (s_lv (lv' := [(0, vR ad o), (1, vI x1), (2, vI x2), (3, vI x3), (4, vI x4), (5, vI x5), (6, vI x6), (7, vI (w32 (x7 + 1)))]) [1, 2, 3, 4, 5, 6, 7, 0] rfl) ?_
        exact z_end (fun g => hin1_1 _ g ⟨ax6, (inR_w32 _)⟩)
      · refine z_s I (s_iinc (pc' := 71) (lv' := [(6, vI (w32 (x6 + 1))), (0, vR ad o), (1, vI x1), (2, vI x2), (3, vI x3), (4, vI x4), (5, vI x5), (7, vI x7)]) (n := 6) rfl D_Cb_chance_2.1.1.2.1 (by decide) rfl rfl) ?_
        refine z_s I (s_iinc (pc' := 74) (lv' := [(7, vI (w32 (x7 + 1))), (6, vI (w32 (x6 + 1))), (0, vR ad o), (1, vI x1), (2, vI x2), (3, vI x3), (4, vI x4), (5, vI x5)]) (n := 7) rfl D_Cb_chance_2.1.1.2.2 (by decide) rfl rfl) ?_
        refine z_s I (s_goto (tgt := 35) D_Cb_chance_2.1.2.1.1 rfl) ?_
        refine z_s I (s_lv (lv' := [(0, vR ad o), (1, vI x1), (2, vI x2), (3, vI x3), (4, vI x4), (5, vI x5), (6, vI (w32 (x6 + 1))), (7, vI (w32 (x7 + 1)))]) [2, 3, 4, 5, 6, 7, 1, 0] rfl) ?_
        exact z_end (fun g => hin1_1 _ g ⟨(inR_w32 _), (inR_w32 _)⟩)
  have main : Z Y (m_Cb_chance o x1 x2 x3 x4 x5 h) G0 h 0 [(0, vR ad o), (1, vI x1), (2, vI x2), (3, vI x3), (4, vI x4), (5, vI x5)] [] := by
    unfold m_Cb_chance
    refine z_s I (s_aload_n (pc' := 1) 0 rfl D_Cb_chance_0.1.1.1.1 rfl rfl) ?_
    refine z_getR (pc' := 4) (eI := o + 1) I g_Cb_12 ao rfl (by omega) D_Cb_chance_0.1.1.1.2 rfl ?_
    have k18 : ok τ (4, 1) (o + 1) := r_Cb_now hw ao (by omega)
    refine z_s I (s_iload_n (pc' := 5) 2 rfl D_Cb_chance_0.1.1.2.1 rfl rfl) ?_
    refine z_s I (s_iload_n (pc' := 6) 3 rfl D_Cb_chance_0.1.1.2.2 rfl rfl) ?_
    refine z_b1 (fun r21 q20 => ?_)
    refine z_callV (pc' := 9) I mv_Exam_hasTwo ml_Cb_193 (fun ad => [vI x2, vI x3]) ⟨Nat.le_of_ble_eq_true rfl, Nat.le_of_ble_eq_true rfl⟩ k18 (fun hh => c_Exam_hasTwo hw k18 ax2 ax3 hh q20) rfl rfl (Nat.le_of_ble_eq_true rfl) D_Cb_chance_0.1.2.1.1 rfl (fun f19 => ?_)
    refine z_if_eq (tgt := 25) (pc' := 12) I (b01.R f19) D_Cb_chance_0.1.2.1.2 rfl rfl (fun c22 => ?_) (fun c22 => ?_)
    · refine z_ldc2 (pc' := 28) (x := (-9223372036854775808)) I cl_Cb_215 (by decide +kernel) D_Cb_chance_0.2.1.2.2 rfl ?_
      exact z_ret (w := some (vL (-9223372036854775808))) I (fun g => gk0 _ _ g (inL_c (x := (-9223372036854775808)) rfl)) ⟨_, rfl⟩ D_Cb_chance_0.2.2.1.1 rfl
    · refine z_s I (s_iload (pc' := 14) 4 rfl D_Cb_chance_0.1.2.2.1 rfl) ?_
      refine z_if_lt (tgt := 25) (pc' := 17) I ax4 D_Cb_chance_0.1.2.2.2 rfl rfl (fun c23 => ?_) (fun c23 => ?_)
      · refine z_ldc2 (pc' := 28) (x := (-9223372036854775808)) I cl_Cb_215 (by decide +kernel) D_Cb_chance_0.2.1.2.2 rfl ?_
        exact z_ret (w := some (vL (-9223372036854775808))) I (fun g => gk0 _ _ g (inL_c (x := (-9223372036854775808)) rfl)) ⟨_, rfl⟩ D_Cb_chance_0.2.2.1.1 rfl
      · refine z_s I (s_iload (pc' := 19) 5 rfl D_Cb_chance_0.2.1.1.1 rfl) ?_
        refine z_b1 (fun r26 q25 => ?_)
        refine z_callS (pc' := 22) I mv_Cb_isPart ml_Cb_212 (fun ad => [vI x5]) ⟨Nat.le_of_ble_eq_true rfl, Nat.le_of_ble_eq_true rfl⟩ (fun hh => c_Cb_isPart hw ax5 hh q25) rfl rfl (Nat.le_of_ble_eq_true rfl) D_Cb_chance_0.2.1.1.2 rfl (fun f24 => ?_)
        refine z_if_ne (tgt := 29) (pc' := 25) I (b01.R f24) D_Cb_chance_0.2.1.2.1 rfl rfl (fun c27 => ?_) (fun c27 => ?_)
        · refine z_s I (s_iconst (pc' := 30) D_Cb_chance_0.2.2.1.2 rfl) ?_
          refine z_s I (s_istore (pc' := 32) (lv' := [(6, vI 0), (0, vR ad o), (1, vI x1), (2, vI x2), (3, vI x3), (4, vI x4), (5, vI x5)]) D_Cb_chance_0.2.2.2.1 (by decide) rfl rfl) ?_
          refine z_s I (s_iconst (pc' := 33) D_Cb_chance_0.2.2.2.2 rfl) ?_
          refine z_s I (s_istore (pc' := 35) (lv' := [(7, vI 0), (6, vI 0), (0, vR ad o), (1, vI x1), (2, vI x2), (3, vI x3), (4, vI x4), (5, vI x5)]) D_Cb_chance_1.1.1.1.1 (by decide) rfl rfl) ?_
          refine z_s I (s_lv (lv' := [(0, vR ad o), (1, vI x1), (2, vI x2), (3, vI x3), (4, vI x4), (5, vI x5), (6, vI 0), (7, vI 0)]) [2, 3, 4, 5, 6, 7, 1, 0] rfl) ?_
          exact L35 _ ⟨(b01.R bz0), (b01.R bz0)⟩
        · refine z_ldc2 (pc' := 28) (x := (-9223372036854775808)) I cl_Cb_215 (by decide +kernel) D_Cb_chance_0.2.1.2.2 rfl ?_
          exact z_ret (w := some (vL (-9223372036854775808))) I (fun g => gk0 _ _ g (inL_c (x := (-9223372036854775808)) rfl)) ⟨_, rfl⟩ D_Cb_chance_0.2.2.1.1 rfl
  exact main _ hF (by rw [hG0])
set_option maxHeartbeats 4000000 in
set_option maxRecDepth 20000 in
theorem c_Exam_sees {l : Launch} {τ : TP} {o : Int} {x1 : Int} {x2 : Int} {x3 : Int} {h : HP} {r : Int} {h' : HP} (hw : wf τ) (ao : ok τ (4, 1) o) (ax1 : inR x1) (ax2 : inR x2) (ax3 : b01 x3) (hh : hr τ h) (hF : m_Exam_sees o x1 x2 x3 h = some (r, h')) : Ctr l y_Exam_sees k_Exam_sees 4 (Option.some FieldType.int) 0 0 τ (fun ad => [vR ad o, vI x1, vI x2, vI x3]) h (some (vI r)) h' (inR r) := by
  refine ctr_of (by decide) hw hh (fun ad => Nat.le_of_ble_eq_true rfl) (fun ad K Y I hK => ?_)
  obtain ⟨G0, hG0⟩ : ∃ G : Int × HP → Prop, G = fun x => x = (r, h') := ⟨_, rfl⟩
  have gk0 : ∀ (x : Int) (y : HP), G0 (x, y) → inR x → K (some (vI x)) y := fun x y g q => by
    rw [hG0] at g
    cases g
    exact hK q
  have main : Z Y (m_Exam_sees o x1 x2 x3 h) G0 h 0 [(0, vR ad o), (1, vI x1), (2, vI x2), (3, vI x3)] [] := by
    unfold m_Exam_sees
    refine z_s I (s_aload_n (pc' := 1) 0 rfl D_Exam_sees_0.1.1.1.1 rfl rfl) ?_
    refine z_getR (pc' := 4) (eI := o + 24) I g_Exam_48 ao rfl (by omega) D_Exam_sees_0.1.1.1.2 rfl ?_
    have k1 : ok τ (0, 5) (o + 24) := r_Exam_seenX hw ao (by omega)
    refine z_s I (s_aload_n (pc' := 5) 0 rfl D_Exam_sees_0.1.1.2.1 rfl rfl) ?_
    refine z_getI (pc' := 8) (jI := 2) I g_Exam_18 ao rfl rfl D_Exam_sees_0.1.1.2.2 rfl (fun f2 => ?_)
    refine z_s I (s_iload_n (pc' := 9) 1 rfl D_Exam_sees_0.1.2.1.1 rfl rfl) ?_
    refine z_iast (pc' := 10) (nI := 5) I k1 f2 ax1 rfl D_Exam_sees_0.1.2.1.2 rfl (fun c3 => ?_)
    refine z_bH (fun h4 e5 => ?_)
    refine z_s I (s_aload_n (pc' := 11) 0 rfl D_Exam_sees_0.1.2.2.1 rfl rfl) ?_
    refine z_getR (pc' := 14) (eI := o + 25) I g_Exam_51 ao rfl (by omega) D_Exam_sees_0.1.2.2.2 rfl ?_
    have k6 : ok τ (0, 5) (o + 25) := r_Exam_seenY hw ao (by omega)
    refine z_s I (s_aload_n (pc' := 15) 0 rfl D_Exam_sees_0.2.1.1.1 rfl rfl) ?_
    refine z_getI (pc' := 18) (jI := 2) I g_Exam_18 ao rfl rfl D_Exam_sees_0.2.1.1.2 rfl (fun f7 => ?_)
    refine z_s I (s_iload_n (pc' := 19) 2 rfl D_Exam_sees_0.2.1.2.1 rfl rfl) ?_
    refine z_iast (pc' := 20) (nI := 5) I k6 f7 ax2 rfl D_Exam_sees_0.2.1.2.2 rfl (fun c8 => ?_)
    refine z_bH (fun h9 e10 => ?_)
    refine z_s I (s_aload_n (pc' := 21) 0 rfl D_Exam_sees_0.2.2.1.1 rfl rfl) ?_
    refine z_getR (pc' := 24) (eI := o + 26) I g_Exam_54 ao rfl (by omega) D_Exam_sees_0.2.2.1.2 rfl ?_
    have k11 : ok τ (2, 5) (o + 26) := r_Exam_seenIs hw ao (by omega)
    refine z_s I (s_aload_n (pc' := 25) 0 rfl D_Exam_sees_0.2.2.2.1 rfl rfl) ?_
    refine z_getI (pc' := 28) (jI := 2) I g_Exam_18 ao rfl rfl D_Exam_sees_0.2.2.2.2 rfl (fun f12 => ?_)
    refine z_s I (s_iload_n (pc' := 29) 3 rfl D_Exam_sees_1.1.1.1 rfl rfl) ?_
    refine z_bast (pc' := 30) (nI := 5) I k11 f12 ax3 rfl D_Exam_sees_1.1.1.2 rfl (fun c13 => ?_)
    refine z_bH (fun h14 e15 => ?_)
    refine z_s I (s_aload_n (pc' := 31) 0 rfl D_Exam_sees_1.1.2.1 rfl rfl) ?_
    refine z_s I (s_dup (pc' := 32) rfl D_Exam_sees_1.1.2.2.1 rfl) ?_
    refine z_getI (pc' := 35) (jI := 2) I g_Exam_18 ao rfl rfl D_Exam_sees_1.1.2.2.2 rfl (fun f16 => ?_)
    refine z_s I (s_iconst (pc' := 36) D_Exam_sees_1.2.1.1 rfl) ?_
    refine z_s I (s_iadd (pc' := 37) D_Exam_sees_1.2.1.2.1 rfl) ?_
    refine z_putI (pc' := 40) (jI := 2) I p_Exam_18 ao rfl rfl (inR_w32 _) D_Exam_sees_1.2.1.2.2 rfl ?_
    refine z_bH (fun h17 e18 => ?_)
    refine z_s I (s_aload_n (pc' := 41) 0 rfl D_Exam_sees_1.2.2.1 rfl rfl) ?_
    refine z_getI (pc' := 44) (jI := 2) I g_Exam_18 ao rfl rfl D_Exam_sees_1.2.2.2.1 rfl (fun f19 => ?_)
    exact z_ret (w := some (vI (h17 o 2))) I (fun g => gk0 _ _ g f19) ⟨_, rfl⟩ D_Exam_sees_1.2.2.2.2 rfl
  exact main _ hF (by rw [hG0])
set_option maxHeartbeats 4000000 in
set_option maxRecDepth 20000 in
theorem c_Cb_see {l : Launch} {τ : TP} {o : Int} {x1 : Int} {x2 : Int} {x3 : Int} {h : HP} {r : Int} {h' : HP} (hw : wf τ) (ao : ok τ (4, 9) o) (ax1 : inR x1) (ax2 : inR x2) (ax3 : b01 x3) (hh : hr τ h) (hF : m_Cb_see o x1 x2 x3 h = some (r, h')) : Ctr l y_Cb_see k_Cb_see 4 (Option.some FieldType.int) 2 43 τ (fun ad => [vR ad o, vI x1, vI x2, vI x3]) h (some (vI r)) h' (inR r) := by
  refine ctr_of (by decide) hw hh (fun ad => Nat.le_of_ble_eq_true rfl) (fun ad K Y I hK => ?_)
  obtain ⟨G0, hG0⟩ : ∃ G : Int × HP → Prop, G = fun x => x = (r, h') := ⟨_, rfl⟩
  have gk0 : ∀ (x : Int) (y : HP), G0 (x, y) → inR x → K (some (vI x)) y := fun x y g q => by
    rw [hG0] at g
    cases g
    exact hK q
  have main : Z Y (m_Cb_see o x1 x2 x3 h) G0 h 0 [(0, vR ad o), (1, vI x1), (2, vI x2), (3, vI x3)] [] := by
    unfold m_Cb_see
    refine z_s I (s_iload_n (pc' := 1) 1 rfl D_Cb_see_0.1.1.1.1 rfl rfl) ?_
    refine z_s I (s_iconst (pc' := 2) D_Cb_see_0.1.1.1.2 rfl) ?_
    refine z_icmp_ne (tgt := 15) (pc' := 5) I ax1 (inR_c (x := (-1)) rfl) D_Cb_see_0.1.1.2.1 rfl rfl (fun c1 => ?_) (fun c1 => ?_)
    · refine z_s I (s_aload_n (pc' := 16) 0 rfl D_Cb_see_0.2.1.1.2 rfl rfl) ?_
      refine z_getR (pc' := 19) (eI := o + 1) I g_Cb_12 ao rfl (by omega) D_Cb_see_0.2.1.2.1 rfl ?_
      have k2 : ok τ (4, 1) (o + 1) := r_Cb_now hw ao (by omega)
      refine z_s I (s_iload_n (pc' := 20) 1 rfl D_Cb_see_0.2.1.2.2 rfl rfl) ?_
      refine z_s I (s_iload_n (pc' := 21) 2 rfl D_Cb_see_0.2.2.1.1 rfl rfl) ?_
      refine z_b1 (fun r5 q4 => ?_)
      refine z_callV (pc' := 24) I mv_Exam_hasTwo ml_Cb_193 (fun ad => [vI x1, vI x2]) ⟨Nat.le_of_ble_eq_true rfl, Nat.le_of_ble_eq_true rfl⟩ k2 (fun hh => c_Exam_hasTwo hw k2 ax1 ax2 hh q4) rfl rfl (Nat.le_of_ble_eq_true rfl) D_Cb_see_0.2.2.1.2 rfl (fun f3 => ?_)
      refine z_if_ne (tgt := 29) (pc' := 27) I (b01.R f3) D_Cb_see_0.2.2.2.1 rfl rfl (fun c6 => ?_) (fun c6 => ?_)
      · refine z_s I (s_aload_n (pc' := 30) 0 rfl D_Cb_see_1.1.1.2.1 rfl rfl) ?_
        refine z_getR (pc' := 33) (eI := o + 1) I g_Cb_12 ao rfl (by omega) D_Cb_see_1.1.1.2.2 rfl ?_
        have k7 : ok τ (4, 1) (o + 1) := r_Cb_now hw ao (by omega)
        refine z_getI (pc' := 36) (jI := 2) I g_Cb_302 k7 rfl rfl D_Cb_see_1.1.2.1.1 rfl (fun f8 => ?_)
        refine z_s I (s_iconst (pc' := 37) D_Cb_see_1.1.2.1.2 rfl) ?_
        refine z_icmp_ge (tgt := 53) (pc' := 40) I f8 (inR_c (x := 5) rfl) D_Cb_see_1.1.2.2.1 rfl rfl (fun c9 => ?_) (fun c9 => ?_)
        · refine z_s I (s_bipush (pc' := 55) D_Cb_see_1.2.2.2.1 rfl rfl) ?_
          exact z_ret (w := some (vI (-4))) I (fun g => gk0 _ _ g (inR_c (x := (-4)) rfl)) ⟨_, rfl⟩ D_Cb_see_1.2.2.2.2 rfl
        · refine z_s I (s_aload_n (pc' := 41) 0 rfl D_Cb_see_1.1.2.2.2 rfl rfl) ?_
          refine z_getR (pc' := 44) (eI := o + 1) I g_Cb_12 ao rfl (by omega) D_Cb_see_1.2.1.1.1 rfl ?_
          have k10 : ok τ (4, 1) (o + 1) := r_Cb_now hw ao (by omega)
          refine z_s I (s_iload_n (pc' := 45) 1 rfl D_Cb_see_1.2.1.1.2 rfl rfl) ?_
          refine z_s I (s_iload_n (pc' := 46) 2 rfl D_Cb_see_1.2.1.2.1 rfl rfl) ?_
          refine z_s I (s_iload_n (pc' := 47) 3 rfl D_Cb_see_1.2.1.2.2 rfl rfl) ?_
          refine z_b2 (fun r13 h14 q12 => ?_)
          refine z_callV (pc' := 50) I mv_Exam_sees ml_Cb_305 (fun ad => [vI x1, vI x2, vI x3]) ⟨Nat.le_of_ble_eq_true rfl, Nat.le_of_ble_eq_true rfl⟩ k10 (fun hh => c_Exam_sees hw k10 ax1 ax2 ax3 hh q12) rfl rfl (Nat.le_of_ble_eq_true rfl) D_Cb_see_1.2.2.1.1 rfl (fun f11 => ?_)
          refine z_s I (s_goto (tgt := 55) D_Cb_see_1.2.2.1.2 rfl) ?_
          exact z_ret (w := some (vI r13)) I (fun g => gk0 _ _ g f11) ⟨_, rfl⟩ D_Cb_see_1.2.2.2.2 rfl
      · refine z_s I (s_iconst (pc' := 28) D_Cb_see_0.2.2.2.2 rfl) ?_
        exact z_ret (w := some (vI (-1))) I (fun g => gk0 _ _ g (inR_c (x := (-1)) rfl)) ⟨_, rfl⟩ D_Cb_see_1.1.1.1 rfl
    · refine z_s I (s_aload_n (pc' := 6) 0 rfl D_Cb_see_0.1.1.2.2 rfl rfl) ?_
      refine z_getR (pc' := 9) (eI := o + 1) I g_Cb_12 ao rfl (by omega) D_Cb_see_0.1.2.1.1 rfl ?_
      have k15 : ok τ (4, 1) (o + 1) := r_Cb_now hw ao (by omega)
      refine z_s I (s_iconst (pc' := 10) D_Cb_see_0.1.2.1.2 rfl) ?_
      refine z_putI (pc' := 13) (jI := 2) I p_Cb_302 k15 rfl rfl (b01.R bz0) D_Cb_see_0.1.2.2.1 rfl ?_
      refine z_bH (fun h16 e17 => ?_)
      refine z_s I (s_iconst (pc' := 14) D_Cb_see_0.1.2.2.2 rfl) ?_
      exact z_ret (w := some (vI 0)) I (fun g => gk0 _ _ g (b01.R bz0)) ⟨_, rfl⟩ D_Cb_see_0.2.1.1.1 rfl
  exact main _ hF (by rw [hG0])
set_option maxHeartbeats 4000000 in
set_option maxRecDepth 20000 in
theorem c_Ranking_agrees {l : Launch} {τ : TP} {o : Int} {r1 : Int} {h : HP} {r : Int} (hw : wf τ) (ao : ok τ (4, 4) o) (ar1 : ok τ (4, 1) r1) (hh : hr τ h) (hF : m_Ranking_agrees o r1 h = some r) : Ctr l y_Ranking_agrees k_Ranking_agrees 5 (Option.some FieldType.boolean) 2 46 τ (fun ad => [vR ad o, vR ad r1]) h (some (vI r)) h (b01 r) := by
  refine ctr_of (by decide) hw hh (fun ad => Nat.le_of_ble_eq_true rfl) (fun ad K Y I hK => ?_)
  obtain ⟨G0, hG0⟩ : ∃ G : Int → Prop, G = fun x => x = r := ⟨_, rfl⟩
  have gk0 : ∀ (x : Int), G0 x → b01 x → K (some (vI x)) h := fun x g q => by
    rw [hG0] at g
    cases g
    exact hK q
  have L2 : ∀ (s : Int), (inR s) → Z Y (m_Ranking_agrees_L2 o r1 h s) G0 h 2 [(0, vR ad o), (1, vR ad r1), (2, vI s)] [] := by
    intro s hs
    refine z_loop (G := G0) (hO := fun s : Int => h) (lO := fun s : Int => [(0, vR ad o), (1, vR ad r1), (2, vI s)]) (Φ := fun s : Int => inR s) (fun G1 hin1_1 hout1 s hs => ?_) FUEL s hs
    obtain ⟨x2, rfl⟩ : ∃ z, z = s := ⟨_, rfl⟩
    have ax2 := hs
    have gk1 := fun (x : Int) (g : G1 (.inr (x))) (q : b01 x) => gk0 x (hout1 _ g) q
    have J44 : ∀ (x2 : Int) (ax2 : inR x2) (s0 : Int) (as0 : b01 s0), Z Y (m_Ranking_agrees_J44 o r1 x2 s0 h) G1 h 44 [(0, vR ad o), (1, vR ad r1), (2, vI x2)] [vI s0] := by
      intro x2 ax2 s0 as0
      unfold m_Ranking_agrees_J44
      refine z_s I (s_istore (pc' := 46) (lv' := [(4, vI s0), (0, vR ad o), (1, vR ad r1), (2, vI x2)]) D_Ranking_agrees_1.2.1.2.1 (by decide) rfl rfl) ?_
      refine z_s I (s_iload (pc' := 48) 0 rfl D_Ranking_agrees_1.2.1.2.2 rfl) ?_
      refine z_s I (s_aload_n (pc' := 49) 2 rfl D_Ranking_agrees_1.2.2.1.1 rfl rfl) ?_
      refine z_getR (pc' := 52) (eI := r1 + 26) I g_Ranking_86 ar1 rfl (by omega) D_Ranking_agrees_1.2.2.1.2 rfl ?_
      have k1 : ok τ (2, 5) (r1 + 26) := r_Exam_seenIs hw ar1 (by omega)
      refine z_s I (s_iload_n (pc' := 53) 3 rfl D_Ranking_agrees_1.2.2.2.1 rfl rfl) ?_
      refine z_bald (pc' := 54) (nI := 5) I k1 ax2 rfl D_Ranking_agrees_1.2.2.2.2 rfl (fun c2 f3 => ?_)
      refine z_icmp_eq (tgt := 59) (pc' := 57) I (b01.R as0) (b01.R f3) D_Ranking_agrees_2.1.1 rfl rfl (fun c4 => ?_) (fun c4 => ?_)
      · refine z_s I (s_iinc (pc' := 62) (lv' := [(2, vI (w32 (x2 + 1))), (4, vI s0), (0, vR ad o), (1, vR ad r1)]) (n := 3) rfl D_Ranking_agrees_2.2.1.1 (by decide) rfl rfl) ?_
        refine z_s I (s_goto (tgt := 2) D_Ranking_agrees_2.2.1.2 rfl) ?_
        refine z_s I (s_lv (lv' := [(0, vR ad o), (1, vR ad r1), (2, vI (w32 (x2 + 1)))]) [2, 3, 0] rfl) ?_
        exact z_end (fun g => hin1_1 _ g (inR_w32 _))
      · refine z_s I (s_iconst (pc' := 58) D_Ranking_agrees_2.1.2.1 rfl) ?_
        exact z_ret (w := some (vI 0)) I (fun g => gk1 _ g bz0) ⟨_, bz0, rfl⟩ D_Ranking_agrees_2.1.2.2 rfl
    have J43 : ∀ (x2 : Int) (ax2 : inR x2), Z Y (m_Ranking_agrees_J43 o r1 x2 h) G1 h 43 [(0, vR ad o), (1, vR ad r1), (2, vI x2)] [] := by
      intro x2 ax2
      unfold m_Ranking_agrees_J43
      refine z_s I (s_iconst (pc' := 44) D_Ranking_agrees_1.2.1.1.2 rfl) ?_
      exact J44 _ ax2 _ bz0
    show Z Y (m_Ranking_agrees_L2b o r1 h x2) G1 h 2 [(0, vR ad o), (1, vR ad r1), (2, vI x2)] []
    unfold m_Ranking_agrees_L2b
    refine z_s I (s_iload_n (pc' := 3) 2 rfl D_Ranking_agrees_0.1.1.2.1 rfl rfl) ?_
    refine z_s I (s_aload_n (pc' := 4) 1 rfl D_Ranking_agrees_0.1.1.2.2 rfl rfl) ?_
    refine z_getI (pc' := 7) (jI := 2) I g_Ranking_74 ar1 rfl rfl D_Ranking_agrees_0.1.2.1.1 rfl (fun f5 => ?_)
    refine z_icmp_ge (tgt := 65) (pc' := 10) I ax2 f5 D_Ranking_agrees_0.1.2.1.2 rfl rfl (fun c6 => ?_) (fun c6 => ?_)
    · refine z_s I (s_iconst (pc' := 66) D_Ranking_agrees_2.2.2.1 rfl) ?_
      exact z_ret (w := some (vI 1)) I (fun g => gk1 _ g bz1) ⟨_, bz1, rfl⟩ D_Ranking_agrees_2.2.2.2 rfl
    · refine z_s I (s_aload_n (pc' := 11) 0 rfl D_Ranking_agrees_0.1.2.2.1 rfl rfl) ?_
      refine z_s I (s_aload_n (pc' := 12) 1 rfl D_Ranking_agrees_0.1.2.2.2 rfl rfl) ?_
      refine z_getR (pc' := 15) (eI := r1 + 24) I g_Ranking_77 ar1 rfl (by omega) D_Ranking_agrees_0.2.1.1.1 rfl ?_
      have k7 : ok τ (0, 5) (r1 + 24) := r_Exam_seenX hw ar1 (by omega)
      refine z_s I (s_iload_n (pc' := 16) 2 rfl D_Ranking_agrees_0.2.1.1.2 rfl rfl) ?_
      refine z_iald (pc' := 17) (nI := 5) I k7 ax2 rfl D_Ranking_agrees_0.2.1.2.1 rfl (fun c8 f9 => ?_)
      refine z_s I (s_aload_n (pc' := 18) 1 rfl D_Ranking_agrees_0.2.1.2.2 rfl rfl) ?_
      refine z_getR (pc' := 21) (eI := r1 + 25) I g_Ranking_80 ar1 rfl (by omega) D_Ranking_agrees_0.2.2.1.1 rfl ?_
      have k10 : ok τ (0, 5) (r1 + 25) := r_Exam_seenY hw ar1 (by omega)
      refine z_s I (s_iload_n (pc' := 22) 2 rfl D_Ranking_agrees_0.2.2.1.2 rfl rfl) ?_
      refine z_iald (pc' := 23) (nI := 5) I k10 ax2 rfl D_Ranking_agrees_0.2.2.2.1 rfl (fun c11 f12 => ?_)
      refine z_b1 (fun r15 q14 => ?_)
      refine z_callV (pc' := 26) I mv_Ranking_placeOf ml_Ranking_83 (fun ad => [vI (h (r1 + 24) x2), vI (h (r1 + 25) x2)]) ⟨Nat.le_of_ble_eq_true rfl, Nat.le_of_ble_eq_true rfl⟩ ao (fun hh => c_Ranking_placeOf hw ao f9 f12 hh q14) rfl rfl (Nat.le_of_ble_eq_true rfl) D_Ranking_agrees_0.2.2.2.2 rfl (fun f13 => ?_)
      refine z_s I (s_istore_n (pc' := 27) (lv' := [(3, vI r15), (0, vR ad o), (1, vR ad r1), (2, vI x2)]) D_Ranking_agrees_1.1.1.1.1 rfl (by decide) rfl rfl) ?_
      refine z_s I (s_iload_n (pc' := 28) 0 rfl D_Ranking_agrees_1.1.1.1.2 rfl rfl) ?_
      refine z_if_lt (tgt := 43) (pc' := 31) I f13 D_Ranking_agrees_1.1.1.2.1 rfl rfl (fun c16 => ?_) (fun c16 => ?_)
      · refine z_s I (s_lv (lv' := [(0, vR ad o), (1, vR ad r1), (2, vI x2)]) [1, 2, 3] rfl) ?_
        exact J43 _ ax2
      · refine z_s I (s_iload_n (pc' := 32) 0 rfl D_Ranking_agrees_1.1.1.2.2 rfl rfl) ?_
        refine z_s I (s_aload_n (pc' := 33) 1 rfl D_Ranking_agrees_1.1.2.1.1 rfl rfl) ?_
        refine z_getI (pc' := 36) (jI := 1) I g_Ranking_15 ao rfl rfl D_Ranking_agrees_1.1.2.1.2 rfl (fun f17 => ?_)
        refine z_icmp_ge (tgt := 43) (pc' := 39) I f13 f17 D_Ranking_agrees_1.1.2.2.1 rfl rfl (fun c18 => ?_) (fun c18 => ?_)
        · refine z_s I (s_lv (lv' := [(0, vR ad o), (1, vR ad r1), (2, vI x2)]) [1, 2, 3] rfl) ?_
          exact J43 _ ax2
        · refine z_s I (s_iconst (pc' := 40) D_Ranking_agrees_1.1.2.2.2 rfl) ?_
          refine z_s I (s_goto (tgt := 44) D_Ranking_agrees_1.2.1.1.1 rfl) ?_
          refine z_s I (s_lv (lv' := [(0, vR ad o), (1, vR ad r1), (2, vI x2)]) [1, 2, 3] rfl) ?_
          exact J44 _ ax2 _ bz1
  have main : Z Y (m_Ranking_agrees o r1 h) G0 h 0 [(0, vR ad o), (1, vR ad r1)] [] := by
    unfold m_Ranking_agrees
    refine z_s I (s_iconst (pc' := 1) D_Ranking_agrees_0.1.1.1.1 rfl) ?_
    refine z_s I (s_istore_n (pc' := 2) (lv' := [(2, vI 0), (0, vR ad o), (1, vR ad r1)]) D_Ranking_agrees_0.1.1.1.2 rfl (by decide) rfl rfl) ?_
    refine z_s I (s_lv (lv' := [(0, vR ad o), (1, vR ad r1), (2, vI 0)]) [1, 2, 0] rfl) ?_
    exact L2 _ (b01.R bz0)
  exact main _ hF (by rw [hG0])
set_option maxHeartbeats 4000000 in
set_option maxRecDepth 20000 in
theorem c_Cb_fits {l : Launch} {τ : TP} {o : Int} {x1 : Int} {h : HP} {r : Int} {h' : HP} (hw : wf τ) (ao : ok τ (4, 9) o) (ax1 : inR x1) (hh : hr τ h) (hF : m_Cb_fits o x1 h = some (r, h')) : Ctr l y_Cb_fits k_Cb_fits 5 (Option.some FieldType.int) 5 138 τ (fun ad => [vR ad o, vI x1]) h (some (vI r)) h' (inR r) := by
  refine ctr_of (by decide) hw hh (fun ad => Nat.le_of_ble_eq_true rfl) (fun ad K Y I hK => ?_)
  obtain ⟨G0, hG0⟩ : ∃ G : Int × HP → Prop, G = fun x => x = (r, h') := ⟨_, rfl⟩
  have gk0 : ∀ (x : Int) (y : HP), G0 (x, y) → inR x → K (some (vI x)) y := fun x y g q => by
    rw [hG0] at g
    cases g
    exact hK q
  have J67 : ∀ (x2 : Int) (ax2 : inR x2) (x3 : Int) (ax3 : inR x3) (h : HP), Z Y (m_Cb_fits_J67 x1 x2 x3 h) G0 h 67 [(1, vI x1), (2, vI x2), (3, vI x3)] [] := by
    intro x2 ax2 x3 ax3 h
    unfold m_Cb_fits_J67
    refine z_s I (s_iload_n (pc' := 68) 0 rfl D_Cb_fits_2.1.2.1 rfl rfl) ?_
    refine z_if_ne (tgt := 75) (pc' := 71) I ax1 D_Cb_fits_2.1.2.2 rfl rfl (fun c1 => ?_) (fun c1 => ?_)
    · refine z_s I (s_iload_n (pc' := 76) 2 rfl D_Cb_fits_2.2.2.1 rfl rfl) ?_
      exact z_ret (w := some (vI x3)) I (fun g => gk0 _ _ g ax3) ⟨_, rfl⟩ D_Cb_fits_2.2.2.2 rfl
    · refine z_s I (s_iload_n (pc' := 72) 1 rfl D_Cb_fits_2.2.1.1 rfl rfl) ?_
      refine z_s I (s_goto (tgt := 76) D_Cb_fits_2.2.1.2 rfl) ?_
      exact z_ret (w := some (vI x2)) I (fun g => gk0 _ _ g ax2) ⟨_, rfl⟩ D_Cb_fits_2.2.2.2 rfl
  have L19 : ∀ (s : Int × Int × Int × HP), (inR (s.1) ∧ inR (s.2.1) ∧ inR (s.2.2.1)) → Z Y (m_Cb_fits_L19 o x1 s) G0 (s.2.2.2) 19 [(0, vR ad o), (1, vI x1), (2, vI (s.1)), (3, vI (s.2.1)), (4, vI (s.2.2.1))] [] := by
    intro s hs
    refine z_loop (G := G0) (hO := fun s : Int × Int × Int × HP => s.2.2.2) (lO := fun s : Int × Int × Int × HP => [(0, vR ad o), (1, vI x1), (2, vI (s.1)), (3, vI (s.2.1)), (4, vI (s.2.2.1))]) (Φ := fun s : Int × Int × Int × HP => inR (s.1) ∧ inR (s.2.1) ∧ inR (s.2.2.1)) (fun G1 hin1_1 hout1 s hs => ?_) FUEL s hs
    obtain ⟨x2, x3, x4, h⟩ := s
    obtain ⟨ax2, ax3, ax4⟩ := hs
    have gk1 := fun (x : Int) (y : HP) (g : G1 (.inr ((x, y)))) (q : inR x) => gk0 x y (hout1 _ g) q
    show Z Y (m_Cb_fits_L19b o x1 x2 x3 x4 h) G1 h 19 [(0, vR ad o), (1, vI x1), (2, vI x2), (3, vI x3), (4, vI x4)] []
    unfold m_Cb_fits_L19b
    refine z_s I (s_iload (pc' := 21) 4 rfl D_Cb_fits_0.2.2.1.2 rfl) ?_
    refine z_if_lt (tgt := 67) (pc' := 24) I ax4 D_Cb_fits_0.2.2.2.1 rfl rfl (fun c2 => ?_) (fun c2 => ?_)
    · refine z_map _ (fun x g => hout1 x g) ?_
      refine z_s I (s_lv (lv' := [(1, vI x1), (2, vI x2), (3, vI x3)]) [1, 2, 3] rfl) ?_
      exact J67 _ ax2 _ ax3 _
    · refine z_s I (s_aload_n (pc' := 25) 0 rfl D_Cb_fits_0.2.2.2.2 rfl rfl) ?_
      refine z_getR (pc' := 28) (eI := o + 99) I g_Cb_61 ao rfl (by omega) D_Cb_fits_1.1.1.1.1 rfl ?_
      have k3 : ok τ (4, 4) (o + 99) := r_Cb_ranking hw ao (by omega)
      refine z_s I (s_aload_n (pc' := 29) 0 rfl D_Cb_fits_1.1.1.1.2 rfl rfl) ?_
      refine z_getR (pc' := 32) (eI := o + 1) I g_Cb_12 ao rfl (by omega) D_Cb_fits_1.1.1.2.1 rfl ?_
      have k4 : ok τ (4, 1) (o + 1) := r_Cb_now hw ao (by omega)
      refine z_s I (s_aload_n (pc' := 33) 0 rfl D_Cb_fits_1.1.1.2.2 rfl rfl) ?_
      refine z_getR (pc' := 36) (eI := o + 94) I g_Cb_44 ao rfl (by omega) D_Cb_fits_1.1.2.1.1 rfl ?_
      have k5 : ok τ (4, 3) (o + 94) := r_Cb_odds hw ao (by omega)
      refine z_s I (s_iload (pc' := 38) 4 rfl D_Cb_fits_1.1.2.1.2 rfl) ?_
      refine z_b1 (fun h8 q7 => ?_)
      refine z_callV (pc' := 41) I mv_Ranking_order ml_Cb_309 (fun ad => [vR ad (o + 1), vR ad (o + 94), vI x4]) ⟨Nat.le_of_ble_eq_true rfl, Nat.le_of_ble_eq_true rfl⟩ k3 (fun hh => c_Ranking_order hw k3 k4 k5 ax4 hh q7) rfl rfl (Nat.le_of_ble_eq_true rfl) D_Cb_fits_1.1.2.2.1 rfl (fun f6 => ?_)
      refine z_s I (s_aload_n (pc' := 42) 0 rfl D_Cb_fits_1.1.2.2.2 rfl rfl) ?_
      refine z_getR (pc' := 45) (eI := o + 99) I g_Cb_61 ao rfl (by omega) D_Cb_fits_1.2.1.1.1 rfl ?_
      have k9 : ok τ (4, 4) (o + 99) := r_Cb_ranking hw ao (by omega)
      refine z_s I (s_aload_n (pc' := 46) 0 rfl D_Cb_fits_1.2.1.1.2 rfl rfl) ?_
      refine z_getR (pc' := 49) (eI := o + 1) I g_Cb_12 ao rfl (by omega) D_Cb_fits_1.2.1.2.1 rfl ?_
      have k10 : ok τ (4, 1) (o + 1) := r_Cb_now hw ao (by omega)
      refine z_b1 (fun r13 q12 => ?_)
      refine z_callV (pc' := 52) I mv_Ranking_agrees ml_Cb_313 (fun ad => [vR ad (o + 1)]) ⟨Nat.le_of_ble_eq_true rfl, Nat.le_of_ble_eq_true rfl⟩ k9 (fun hh => c_Ranking_agrees hw k9 k10 hh q12) rfl rfl (Nat.le_of_ble_eq_true rfl) D_Cb_fits_1.2.1.2.2 rfl (fun f11 => ?_)
      refine z_if_eq (tgt := 61) (pc' := 55) I (b01.R f11) D_Cb_fits_1.2.2.1.1 rfl rfl (fun c14 => ?_) (fun c14 => ?_)
      · refine z_s I (s_iinc (pc' := 64) (lv' := [(4, vI (w32 (x4 + (-1)))), (0, vR ad o), (1, vI x1), (2, vI x2), (3, vI x3)]) (n := 4) rfl D_Cb_fits_2.1.1.1 (by decide) rfl rfl) ?_
        refine z_s I (s_goto (tgt := 19) D_Cb_fits_2.1.1.2 rfl) ?_
        refine z_s I (s_lv (lv' := [(0, vR ad o), (1, vI x1), (2, vI x2), (3, vI x3), (4, vI (w32 (x4 + (-1))))]) [1, 2, 3, 4, 0] rfl) ?_
        exact z_end (fun g => hin1_1 _ g ⟨ax2, ax3, (inR_w32 _)⟩)
      · refine z_s I (s_iinc (pc' := 58) (lv' := [(2, vI (w32 (x2 + 1))), (0, vR ad o), (1, vI x1), (3, vI x3), (4, vI x4)]) (n := 2) rfl D_Cb_fits_1.2.2.1.2 (by decide) rfl rfl) ?_
        refine z_s I (s_iload (pc' := 60) 4 rfl D_Cb_fits_1.2.2.2.1 rfl) ?_
        refine z_s I (s_istore_n (pc' := 61) (lv' := [(3, vI x4), (2, vI (w32 (x2 + 1))), (0, vR ad o), (1, vI x1), (4, vI x4)]) D_Cb_fits_1.2.2.2.2 rfl (by decide) rfl rfl) ?_
        refine z_s I (s_iinc (pc' := 64) (lv' := [(4, vI (w32 (x4 + (-1)))), (3, vI x4), (2, vI (w32 (x2 + 1))), (0, vR ad o), (1, vI x1)]) (n := 4) rfl D_Cb_fits_2.1.1.1 (by decide) rfl rfl) ?_
        refine z_s I (s_goto (tgt := 19) D_Cb_fits_2.1.1.2 rfl) ?_
        refine z_s I (s_lv (lv' := [(0, vR ad o), (1, vI x1), (2, vI (w32 (x2 + 1))), (3, vI x4), (4, vI (w32 (x4 + (-1))))]) [3, 4, 2, 1, 0] rfl) ?_
        exact z_end (fun g => hin1_1 _ g ⟨(inR_w32 _), ax4, (inR_w32 _)⟩)
  have main : Z Y (m_Cb_fits o x1 h) G0 h 0 [(0, vR ad o), (1, vI x1)] [] := by
    unfold m_Cb_fits
    refine z_s I (s_iload_n (pc' := 1) 1 rfl D_Cb_fits_0.1.1.1.1 rfl rfl) ?_
    refine z_if_eq (tgt := 11) (pc' := 4) I ax1 D_Cb_fits_0.1.1.1.2 rfl rfl (fun c15 => ?_) (fun c15 => ?_)
    · refine z_s I (s_iconst (pc' := 12) D_Cb_fits_0.1.2.2.2 rfl) ?_
      refine z_s I (s_istore_n (pc' := 13) (lv' := [(2, vI 0), (0, vR ad o), (1, vI x1)]) D_Cb_fits_0.2.1.1.1 rfl (by decide) rfl rfl) ?_
      refine z_s I (s_bipush (pc' := 15) D_Cb_fits_0.2.1.1.2 rfl rfl) ?_
      refine z_s I (s_istore_n (pc' := 16) (lv' := [(3, vI (-5)), (2, vI 0), (0, vR ad o), (1, vI x1)]) D_Cb_fits_0.2.1.2.1 rfl (by decide) rfl rfl) ?_
      refine z_s I (s_iconst (pc' := 17) D_Cb_fits_0.2.1.2.2 rfl) ?_
      refine z_s I (s_istore (pc' := 19) (lv' := [(4, vI 3), (3, vI (-5)), (2, vI 0), (0, vR ad o), (1, vI x1)]) D_Cb_fits_0.2.2.1.1 (by decide) rfl rfl) ?_
      refine z_s I (s_lv (lv' := [(0, vR ad o), (1, vI x1), (2, vI 0), (3, vI (-5)), (4, vI 3)]) [3, 4, 2, 1, 0] rfl) ?_
      exact L19 _ ⟨(b01.R bz0), (inR_c (x := (-5)) rfl), (inR_c (x := 3) rfl)⟩
    · refine z_s I (s_iload_n (pc' := 5) 1 rfl D_Cb_fits_0.1.1.2.1 rfl rfl) ?_
      refine z_s I (s_iconst (pc' := 6) D_Cb_fits_0.1.1.2.2 rfl) ?_
      refine z_icmp_eq (tgt := 11) (pc' := 9) I ax1 (b01.R bz1) D_Cb_fits_0.1.2.1.1 rfl rfl (fun c16 => ?_) (fun c16 => ?_)
      · refine z_s I (s_iconst (pc' := 12) D_Cb_fits_0.1.2.2.2 rfl) ?_
        refine z_s I (s_istore_n (pc' := 13) (lv' := [(2, vI 0), (0, vR ad o), (1, vI x1)]) D_Cb_fits_0.2.1.1.1 rfl (by decide) rfl rfl) ?_
        refine z_s I (s_bipush (pc' := 15) D_Cb_fits_0.2.1.1.2 rfl rfl) ?_
        refine z_s I (s_istore_n (pc' := 16) (lv' := [(3, vI (-5)), (2, vI 0), (0, vR ad o), (1, vI x1)]) D_Cb_fits_0.2.1.2.1 rfl (by decide) rfl rfl) ?_
        refine z_s I (s_iconst (pc' := 17) D_Cb_fits_0.2.1.2.2 rfl) ?_
        refine z_s I (s_istore (pc' := 19) (lv' := [(4, vI 3), (3, vI (-5)), (2, vI 0), (0, vR ad o), (1, vI x1)]) D_Cb_fits_0.2.2.1.1 (by decide) rfl rfl) ?_
        refine z_s I (s_lv (lv' := [(0, vR ad o), (1, vI x1), (2, vI 0), (3, vI (-5)), (4, vI 3)]) [3, 4, 2, 1, 0] rfl) ?_
        exact L19 _ ⟨(b01.R bz0), (inR_c (x := (-5)) rfl), (inR_c (x := 3) rfl)⟩
      · refine z_s I (s_iconst (pc' := 10) D_Cb_fits_0.1.2.1.2 rfl) ?_
        exact z_ret (w := some (vI (-1))) I (fun g => gk0 _ _ g (inR_c (x := (-1)) rfl)) ⟨_, rfl⟩ D_Cb_fits_0.1.2.2.1 rfl
  exact main _ hF (by rw [hG0])
set_option maxHeartbeats 4000000 in
set_option maxRecDepth 20000 in
theorem c_Exam_likenessInReach {l : Launch} {τ : TP} {o : Int} {h : HP} {r : Int} (hw : wf τ) (ao : ok τ (4, 1) o) (hh : hr τ h) (hF : m_Exam_likenessInReach o h = some r) : Ctr l y_Exam_likenessInReach k_Exam_likenessInReach 4 (Option.some FieldType.int) 3 70 τ (fun ad => [vR ad o]) h (some (vI r)) h (inR r) := by
  refine ctr_of (by decide) hw hh (fun ad => Nat.le_of_ble_eq_true rfl) (fun ad K Y I hK => ?_)
  obtain ⟨G0, hG0⟩ : ∃ G : Int → Prop, G = fun x => x = r := ⟨_, rfl⟩
  have gk0 : ∀ (x : Int), G0 x → inR x → K (some (vI x)) h := fun x g q => by
    rw [hG0] at g
    cases g
    exact hK q
  have L4 : ∀ (s : Int × Int), (inR (s.1) ∧ inR (s.2)) → Z Y (m_Exam_likenessInReach_L4 o h s) G0 h 4 [(0, vR ad o), (1, vI (s.1)), (2, vI (s.2))] [] := by
    intro s hs
    refine z_loop (G := G0) (hO := fun s : Int × Int => h) (lO := fun s : Int × Int => [(0, vR ad o), (1, vI (s.1)), (2, vI (s.2))]) (Φ := fun s : Int × Int => inR (s.1) ∧ inR (s.2)) (fun G1 hin1_1 hout1 s hs => ?_) FUEL s hs
    obtain ⟨x1, x2⟩ := s
    obtain ⟨ax1, ax2⟩ := hs
    have gk1 := fun (x : Int) (g : G1 (.inr (x))) (q : inR x) => gk0 x (hout1 _ g) q
    have L16 : ∀ (x2 : Int) (ax2 : inR x2) (s : Int × Int), (inR (s.1) ∧ inR (s.2)) → Z Y (m_Exam_likenessInReach_L16 o x2 h s) G1 h 16 [(0, vR ad o), (2, vI x2), (1, vI (s.1)), (3, vI (s.2))] [] := by
      intro x2 ax2 s hs
      refine z_loop (G := G1) (hO := fun s : Int × Int => h) (lO := fun s : Int × Int => [(0, vR ad o), (2, vI x2), (1, vI (s.1)), (3, vI (s.2))]) (Φ := fun s : Int × Int => inR (s.1) ∧ inR (s.2)) (fun G2 hin2_2 hout2 s hs => ?_) FUEL s hs
      obtain ⟨x1, x3⟩ := s
      obtain ⟨ax1, ax3⟩ := hs
      have hin1_2 := fun (s' : Int × Int) (g : G2 (.inr (.inl s'))) => hin1_1 s' (hout2 _ g)
      have gk2 := fun (x : Int) (g : G2 (.inr (.inr (x)))) (q : inR x) => gk1 x (hout2 _ g) q
      show Z Y (m_Exam_likenessInReach_L16b o x2 h x1 x3) G2 h 16 [(0, vR ad o), (2, vI x2), (1, vI x1), (3, vI x3)] []
      unfold m_Exam_likenessInReach_L16b
      refine z_s I (s_iload_n (pc' := 17) 3 rfl D_Exam_likenessInReach_0.2.2.1.1 rfl rfl) ?_
      refine z_s I (s_aload_n (pc' := 18) 0 rfl D_Exam_likenessInReach_0.2.2.1.2 rfl rfl) ?_
      refine z_getI (pc' := 21) (jI := 1) I g_Exam_15 ao rfl rfl D_Exam_likenessInReach_0.2.2.2.1 rfl (fun f1 => ?_)
      refine z_icmp_ge (tgt := 48) (pc' := 24) I ax3 f1 D_Exam_likenessInReach_0.2.2.2.2 rfl rfl (fun c2 => ?_) (fun c2 => ?_)
      · refine z_s I (s_iinc (pc' := 51) (lv' := [(2, vI (w32 (x2 + 1))), (0, vR ad o), (1, vI x1), (3, vI x3)]) (n := 1) rfl D_Exam_likenessInReach_1.2.2.2.1 (by decide) rfl rfl) ?_
        refine z_s I (s_goto (tgt := 4) D_Exam_likenessInReach_1.2.2.2.2 rfl) ?_
        refine z_s I (s_lv (lv' := [(0, vR ad o), (1, vI x1), (2, vI (w32 (x2 + 1)))]) [1, 2, 0] rfl) ?_
        exact z_end (fun g => hin1_2 _ g ⟨ax1, (inR_w32 _)⟩)
      · refine z_s I (s_aload_n (pc' := 25) 0 rfl D_Exam_likenessInReach_1.1.1.1.1 rfl rfl) ?_
        refine z_s I (s_iload_n (pc' := 26) 1 rfl D_Exam_likenessInReach_1.1.1.1.2 rfl rfl) ?_
        refine z_s I (s_iload_n (pc' := 27) 3 rfl D_Exam_likenessInReach_1.1.1.2.1 rfl rfl) ?_
        refine z_b1 (fun r5 q4 => ?_)
        refine z_callV (pc' := 30) I mv_Exam_inReach ml_Exam_115 (fun ad => [vI x2, vI x3]) ⟨Nat.le_of_ble_eq_true rfl, Nat.le_of_ble_eq_true rfl⟩ ao (fun hh => c_Exam_inReach hw ao ax2 ax3 hh q4) rfl rfl (Nat.le_of_ble_eq_true rfl) D_Exam_likenessInReach_1.1.1.2.2 rfl (fun f3 => ?_)
        refine z_if_eq (tgt := 42) (pc' := 33) I (b01.R f3) D_Exam_likenessInReach_1.1.2.1.1 rfl rfl (fun c6 => ?_) (fun c6 => ?_)
        · refine z_s I (s_iinc (pc' := 45) (lv' := [(3, vI (w32 (x3 + 1))), (0, vR ad o), (2, vI x2), (1, vI x1)]) (n := 3) rfl D_Exam_likenessInReach_1.2.2.1.1 (by decide) rfl rfl) ?_
          refine z_s I (s_goto (tgt := 16) D_Exam_likenessInReach_1.2.2.1.2 rfl) ?_
          refine z_s I (s_lv (lv' := [(0, vR ad o), (2, vI x2), (1, vI x1), (3, vI (w32 (x3 + 1)))]) [1, 2, 3, 0] rfl) ?_
          exact z_end (fun g => hin2_2 _ g ⟨ax1, (inR_w32 _)⟩)
        · refine z_s I (s_iload_n (pc' := 34) 2 rfl D_Exam_likenessInReach_1.1.2.1.2 rfl rfl) ?_
          refine z_s I (s_aload_n (pc' := 35) 0 rfl D_Exam_likenessInReach_1.1.2.2.1 rfl rfl) ?_
          refine z_s I (s_iload_n (pc' := 36) 1 rfl D_Exam_likenessInReach_1.1.2.2.2 rfl rfl) ?_
          refine z_s I (s_iload_n (pc' := 37) 3 rfl D_Exam_likenessInReach_1.2.1.1.1 rfl rfl) ?_
          refine z_b1 (fun r9 q8 => ?_)
          refine z_callV (pc' := 40) I mv_Exam_likeness ml_Exam_119 (fun ad => [vI x2, vI x3]) ⟨Nat.le_of_ble_eq_true rfl, Nat.le_of_ble_eq_true rfl⟩ ao (fun hh => c_Exam_likeness hw ao ax2 ax3 hh q8) rfl rfl (Nat.le_of_ble_eq_true rfl) D_Exam_likenessInReach_1.2.1.1.2 rfl (fun f7 => ?_)
          refine z_s I (s_iadd (pc' := 41) D_Exam_likenessInReach_1.2.1.2.1 rfl) ?_
          refine z_bI (inR_w32 _) (fun v10 e11 f12 => ?_)
          refine z_s I (s_istore_n (pc' := 42) (lv' := [(1, vI v10), (0, vR ad o), (2, vI x2), (3, vI x3)]) D_Exam_likenessInReach_1.2.1.2.2 rfl (by decide) rfl rfl) ?_
          refine z_s I (s_iinc (pc' := 45) (lv' := [(3, vI (w32 (x3 + 1))), (1, vI v10), (0, vR ad o), (2, vI x2)]) (n := 3) rfl D_Exam_likenessInReach_1.2.2.1.1 (by decide) rfl rfl) ?_
          refine z_s I (s_goto (tgt := 16) D_Exam_likenessInReach_1.2.2.1.2 rfl) ?_
          refine z_s I (s_lv (lv' := [(0, vR ad o), (2, vI x2), (1, vI v10), (3, vI (w32 (x3 + 1)))]) [2, 3, 1, 0] rfl) ?_
          exact z_end (fun g => hin2_2 _ g ⟨f12, (inR_w32 _)⟩)
    show Z Y (m_Exam_likenessInReach_L4b o h x1 x2) G1 h 4 [(0, vR ad o), (1, vI x1), (2, vI x2)] []
    unfold m_Exam_likenessInReach_L4b
    refine z_s I (s_iload_n (pc' := 5) 2 rfl D_Exam_likenessInReach_0.1.2.1.1 rfl rfl) ?_
    refine z_s I (s_aload_n (pc' := 6) 0 rfl D_Exam_likenessInReach_0.1.2.1.2 rfl rfl) ?_
    refine z_getI (pc' := 9) (jI := 1) I g_Exam_15 ao rfl rfl D_Exam_likenessInReach_0.1.2.2.1 rfl (fun f13 => ?_)
    refine z_icmp_ge (tgt := 54) (pc' := 12) I ax2 f13 D_Exam_likenessInReach_0.1.2.2.2 rfl rfl (fun c14 => ?_) (fun c14 => ?_)
    · refine z_s I (s_iload_n (pc' := 55) 1 rfl D_Exam_likenessInReach_2.1 rfl rfl) ?_
      exact z_ret (w := some (vI x1)) I (fun g => gk1 _ g ax1) ⟨_, rfl⟩ D_Exam_likenessInReach_2.2 rfl
    · refine z_s I (s_iload_n (pc' := 13) 2 rfl D_Exam_likenessInReach_0.2.1.1.1 rfl rfl) ?_
      refine z_s I (s_iconst (pc' := 14) D_Exam_likenessInReach_0.2.1.1.2 rfl) ?_
      refine z_s I (s_iadd (pc' := 15) D_Exam_likenessInReach_0.2.1.2.1 rfl) ?_
      refine z_bI (inR_w32 _) (fun v15 e16 f17 => ?_)
      refine z_s I (s_istore_n (pc' := 16) (lv' := [(3, vI v15), (0, vR ad o), (1, vI x1), (2, vI x2)]) D_Exam_likenessInReach_0.2.1.2.2 rfl (by decide) rfl rfl) ?_
      refine z_s I (s_lv (lv' := [(0, vR ad o), (2, vI x2), (1, vI x1), (3, vI v15)]) [1, 3, 2, 0] rfl) ?_
      exact L16 _ ax2 _ ⟨ax1, f17⟩
  have main : Z Y (m_Exam_likenessInReach o h) G0 h 0 [(0, vR ad o)] [] := by
    unfold m_Exam_likenessInReach
    refine z_s I (s_iconst (pc' := 1) D_Exam_likenessInReach_0.1.1.1.1 rfl) ?_
    refine z_s I (s_istore_n (pc' := 2) (lv' := [(1, vI 0), (0, vR ad o)]) D_Exam_likenessInReach_0.1.1.1.2 rfl (by decide) rfl rfl) ?_
    refine z_s I (s_iconst (pc' := 3) D_Exam_likenessInReach_0.1.1.2.1 rfl) ?_
    refine z_s I (s_istore_n (pc' := 4) (lv' := [(2, vI 0), (1, vI 0), (0, vR ad o)]) D_Exam_likenessInReach_0.1.1.2.2 rfl (by decide) rfl rfl) ?_
    refine z_s I (s_lv (lv' := [(0, vR ad o), (1, vI 0), (2, vI 0)]) [2, 1, 0] rfl) ?_
    exact L4 _ ⟨(b01.R bz0), (b01.R bz0)⟩
  exact main _ hF (by rw [hG0])
set_option maxHeartbeats 4000000 in
set_option maxRecDepth 20000 in
theorem c_Cb_mean {l : Launch} {τ : TP} {o : Int} {x1 : Int} {h : HP} {r : Int} {h' : HP} (hw : wf τ) (ao : ok τ (4, 9) o) (ax1 : inR x1) (hh : hr τ h) (hF : m_Cb_mean o x1 h = some (r, h')) : Ctr l y_Cb_mean k_Cb_mean 3 (Option.some FieldType.long) 4 93 τ (fun ad => [vR ad o, vI x1]) h (some (vL r)) h' (inL r) := by
  refine ctr_of (by decide) hw hh (fun ad => Nat.le_of_ble_eq_true rfl) (fun ad K Y I hK => ?_)
  obtain ⟨G0, hG0⟩ : ∃ G : Int × HP → Prop, G = fun x => x = (r, h') := ⟨_, rfl⟩
  have gk0 : ∀ (x : Int) (y : HP), G0 (x, y) → inL x → K (some (vL x)) y := fun x y g q => by
    rw [hG0] at g
    cases g
    exact hK q
  have main : Z Y (m_Cb_mean o x1 h) G0 h 0 [(0, vR ad o), (1, vI x1)] [] := by
    unfold m_Cb_mean
    refine z_s I (s_aload_n (pc' := 1) 0 rfl D_Cb_mean_0.1.1.1.1 rfl rfl) ?_
    refine z_getR (pc' := 4) (eI := o + 1) I g_Cb_12 ao rfl (by omega) D_Cb_mean_0.1.1.1.2 rfl ?_
    have k1 : ok τ (4, 1) (o + 1) := r_Cb_now hw ao (by omega)
    refine z_b1 (fun r4 q3 => ?_)
    refine z_callV (pc' := 7) I mv_Exam_pairsInReach ml_Cb_240 (fun ad => []) ⟨Nat.le_of_ble_eq_true rfl, Nat.le_of_ble_eq_true rfl⟩ k1 (fun hh => c_Exam_pairsInReach hw k1 hh q3) rfl rfl (Nat.le_of_ble_eq_true rfl) D_Cb_mean_0.1.1.2.1 rfl (fun f2 => ?_)
    refine z_s I (s_istore_n (pc' := 8) (lv' := [(2, vI r4), (0, vR ad o), (1, vI x1)]) D_Cb_mean_0.1.1.2.2 rfl (by decide) rfl rfl) ?_
    refine z_s I (s_iload_n (pc' := 9) 0 rfl D_Cb_mean_0.1.2.1.1 rfl rfl) ?_
    refine z_if_eq (tgt := 19) (pc' := 12) I f2 D_Cb_mean_0.1.2.1.2 rfl rfl (fun c5 => ?_) (fun c5 => ?_)
    · refine z_ldc2 (pc' := 22) (x := (-9223372036854775808)) I cl_Cb_215 (by decide +kernel) D_Cb_mean_0.2.1.1.2 rfl ?_
      exact z_ret (w := some (vL (-9223372036854775808))) I (fun g => gk0 _ _ g (inL_c (x := (-9223372036854775808)) rfl)) ⟨_, rfl⟩ D_Cb_mean_0.2.1.2.1 rfl
    · refine z_s I (s_iload_n (pc' := 13) 2 rfl D_Cb_mean_0.1.2.2.1 rfl rfl) ?_
      refine z_b1 (fun r8 q7 => ?_)
      refine z_callS (pc' := 16) I mv_Cb_isPart ml_Cb_212 (fun ad => [vI x1]) ⟨Nat.le_of_ble_eq_true rfl, Nat.le_of_ble_eq_true rfl⟩ (fun hh => c_Cb_isPart hw ax1 hh q7) rfl rfl (Nat.le_of_ble_eq_true rfl) D_Cb_mean_0.1.2.2.2 rfl (fun f6 => ?_)
      refine z_if_ne (tgt := 23) (pc' := 19) I (b01.R f6) D_Cb_mean_0.2.1.1.1 rfl rfl (fun c9 => ?_) (fun c9 => ?_)
      · refine z_s I (s_aload_n (pc' := 24) 1 rfl D_Cb_mean_0.2.1.2.2 rfl rfl) ?_
        refine z_getR (pc' := 27) (eI := o + 97) I g_Cb_51 ao rfl (by omega) D_Cb_mean_0.2.2.1.1 rfl ?_
        have k10 : ok τ (4, 5) (o + 97) := r_Cb_first hw ao (by omega)
        refine z_s I (s_aload_n (pc' := 28) 1 rfl D_Cb_mean_0.2.2.1.2 rfl rfl) ?_
        refine z_getR (pc' := 31) (eI := o + 1) I g_Cb_12 ao rfl (by omega) D_Cb_mean_0.2.2.2.1 rfl ?_
        have k11 : ok τ (4, 1) (o + 1) := r_Cb_now hw ao (by omega)
        refine z_b1 (fun r14 q13 => ?_)
        refine z_callV (pc' := 34) I mv_Exam_likenessInReach ml_Cb_317 (fun ad => []) ⟨Nat.le_of_ble_eq_true rfl, Nat.le_of_ble_eq_true rfl⟩ k11 (fun hh => c_Exam_likenessInReach hw k11 hh q13) rfl rfl (Nat.le_of_ble_eq_true rfl) D_Cb_mean_0.2.2.2.2 rfl (fun f12 => ?_)
        refine z_s I (s_i2l (pc' := 35) f12 D_Cb_mean_1.1.1.1 rfl) ?_
        refine z_s I (s_iload_n (pc' := 36) 0 rfl D_Cb_mean_1.1.1.2 rfl rfl) ?_
        refine z_s I (s_i2l (pc' := 37) f2 D_Cb_mean_1.1.2.1 rfl) ?_
        refine z_b1 (fun h17 q16 => ?_)
        refine z_callV (pc' := 40) I mv_Ratio_put ml_Cb_298 (fun ad => [vL r14, vL r4]) ⟨Nat.le_of_ble_eq_true rfl, Nat.le_of_ble_eq_true rfl⟩ k10 (fun hh => c_Ratio_put hw k10 (f12).L (f2).L hh q16) rfl rfl (Nat.le_of_ble_eq_true rfl) D_Cb_mean_1.1.2.2 rfl (fun f15 => ?_)
        refine z_s I (s_aload_n (pc' := 41) 1 rfl D_Cb_mean_1.2.1.1 rfl rfl) ?_
        refine z_getR (pc' := 44) (eI := o + 97) I g_Cb_51 ao rfl (by omega) D_Cb_mean_1.2.1.2 rfl ?_
        have k18 : ok τ (4, 5) (o + 97) := r_Cb_first hw ao (by omega)
        refine z_s I (s_iload_n (pc' := 45) 2 rfl D_Cb_mean_1.2.2.1 rfl rfl) ?_
        refine z_b1 (fun r21 q20 => ?_)
        refine z_callV (pc' := 48) I mv_Ratio_half ml_Cb_225 (fun ad => [vI x1]) ⟨Nat.le_of_ble_eq_true rfl, Nat.le_of_ble_eq_true rfl⟩ k18 (fun hh => c_Ratio_half hw k18 ax1 hh q20) rfl rfl (Nat.le_of_ble_eq_true rfl) D_Cb_mean_1.2.2.2.1 rfl (fun f19 => ?_)
        exact z_ret (w := some (vL r21)) I (fun g => gk0 _ _ g f19) ⟨_, rfl⟩ D_Cb_mean_1.2.2.2.2 rfl
      · refine z_ldc2 (pc' := 22) (x := (-9223372036854775808)) I cl_Cb_215 (by decide +kernel) D_Cb_mean_0.2.1.1.2 rfl ?_
        exact z_ret (w := some (vL (-9223372036854775808))) I (fun g => gk0 _ _ g (inL_c (x := (-9223372036854775808)) rfl)) ⟨_, rfl⟩ D_Cb_mean_0.2.1.2.1 rfl
  exact main _ hF (by rw [hG0])
set_option maxHeartbeats 4000000 in
set_option maxRecDepth 20000 in
theorem c_Exam_canPlan {l : Launch} {τ : TP} {o : Int} {x1 : Int} {x2 : Int} {x3 : Int} {h : HP} {r : Int} (hw : wf τ) (ao : ok τ (4, 1) o) (ax1 : inR x1) (ax2 : inR x2) (ax3 : inR x3) (hh : hr τ h) (hF : m_Exam_canPlan o x1 x2 x3 h = some r) : Ctr l y_Exam_canPlan k_Exam_canPlan 4 (Option.some FieldType.boolean) 2 43 τ (fun ad => [vR ad o, vI x1, vI x2, vI x3]) h (some (vI r)) h (b01 r) := by
  refine ctr_of (by decide) hw hh (fun ad => Nat.le_of_ble_eq_true rfl) (fun ad K Y I hK => ?_)
  obtain ⟨G0, hG0⟩ : ∃ G : Int → Prop, G = fun x => x = r := ⟨_, rfl⟩
  have gk0 : ∀ (x : Int), G0 x → b01 x → K (some (vI x)) h := fun x g q => by
    rw [hG0] at g
    cases g
    exact hK q
  have J38 : Z Y (m_Exam_canPlan_J38 o x2 h) G0 h 38 [(0, vR ad o), (2, vI x2)] [] := by
    unfold m_Exam_canPlan_J38
    refine z_s I (s_aload_n (pc' := 39) 0 rfl D_Exam_canPlan_0.1.2.2.1 rfl rfl) ?_
    refine z_s I (s_iload_n (pc' := 40) 1 rfl D_Exam_canPlan_0.1.2.2.2 rfl rfl) ?_
    refine z_b1 (fun r3 q2 => ?_)
    refine z_callV (pc' := 43) I mv_Exam_hasItem ml_Exam_122 (fun ad => [vI x2]) ⟨Nat.le_of_ble_eq_true rfl, Nat.le_of_ble_eq_true rfl⟩ ao (fun hh => c_Exam_hasItem hw ao ax2 hh q2) rfl rfl (Nat.le_of_ble_eq_true rfl) D_Exam_canPlan_0.2.1.1.1 rfl (fun f1 => ?_)
    exact z_ret (w := some (vI r3)) I (fun g => gk0 _ g f1) ⟨_, f1, rfl⟩ D_Exam_canPlan_0.2.1.1.2 rfl
  have main : Z Y (m_Exam_canPlan o x1 x2 x3 h) G0 h 0 [(0, vR ad o), (1, vI x1), (2, vI x2), (3, vI x3)] [] := by
    unfold m_Exam_canPlan
    refine z_s I (s_iload_n (pc' := 1) 1 rfl D_Exam_canPlan_0.1.1.1.1 rfl rfl) ?_
    refine z_tin (tgt := 32) I ax1 D_Exam_canPlan_0.1.1.1.2 0 ⟨by decide, by decide⟩ rfl rfl (fun c4 => ?_) (fun c4 => ?_)
    · refine z_s I (s_aload_n (pc' := 33) 0 rfl D_Exam_canPlan_0.1.1.2.1 rfl rfl) ?_
      refine z_s I (s_iload_n (pc' := 34) 2 rfl D_Exam_canPlan_0.1.1.2.2 rfl rfl) ?_
      refine z_b1 (fun r7 q6 => ?_)
      refine z_callV (pc' := 37) I mv_Exam_hasCandidate ml_Exam_84 (fun ad => [vI x2]) ⟨Nat.le_of_ble_eq_true rfl, Nat.le_of_ble_eq_true rfl⟩ ao (fun hh => c_Exam_hasCandidate hw ao ax2 hh q6) rfl rfl (Nat.le_of_ble_eq_true rfl) D_Exam_canPlan_0.1.2.1.1 rfl (fun f5 => ?_)
      exact z_ret (w := some (vI r7)) I (fun g => gk0 _ g f5) ⟨_, f5, rfl⟩ D_Exam_canPlan_0.1.2.1.2 rfl
    · skip
      refine z_tin (tgt := 38) I ax1 D_Exam_canPlan_0.1.1.1.2 1 ⟨by decide, by decide⟩ rfl rfl (fun c8 => ?_) (fun c8 => ?_)
      · refine z_s I (s_lv (lv' := [(0, vR ad o), (2, vI x2)]) [0, 2] rfl) ?_
        exact J38
      · skip
        refine z_tin (tgt := 38) I ax1 D_Exam_canPlan_0.1.1.1.2 2 ⟨by decide, by decide⟩ rfl rfl (fun c9 => ?_) (fun c9 => ?_)
        · refine z_s I (s_lv (lv' := [(0, vR ad o), (2, vI x2)]) [0, 2] rfl) ?_
          exact J38
        · skip
          refine z_tin (tgt := 44) I ax1 D_Exam_canPlan_0.1.1.1.2 3 ⟨by decide, by decide⟩ rfl rfl (fun c10 => ?_) (fun c10 => ?_)
          · refine z_s I (s_aload_n (pc' := 45) 0 rfl D_Exam_canPlan_0.2.1.2.1 rfl rfl) ?_
            refine z_s I (s_iload_n (pc' := 46) 2 rfl D_Exam_canPlan_0.2.1.2.2 rfl rfl) ?_
            refine z_s I (s_iload_n (pc' := 47) 3 rfl D_Exam_canPlan_0.2.2.1.1 rfl rfl) ?_
            refine z_b1 (fun r13 q12 => ?_)
            refine z_callV (pc' := 50) I mv_Exam_hasTwo ml_Exam_125 (fun ad => [vI x2, vI x3]) ⟨Nat.le_of_ble_eq_true rfl, Nat.le_of_ble_eq_true rfl⟩ ao (fun hh => c_Exam_hasTwo hw ao ax2 ax3 hh q12) rfl rfl (Nat.le_of_ble_eq_true rfl) D_Exam_canPlan_0.2.2.1.2 rfl (fun f11 => ?_)
            exact z_ret (w := some (vI r13)) I (fun g => gk0 _ g f11) ⟨_, f11, rfl⟩ D_Exam_canPlan_0.2.2.2.1 rfl
          · skip
            refine z_tout (tgt := 51) I ax1 D_Exam_canPlan_0.1.1.1.2 (by omega) rfl ?_
            refine z_s I (s_iconst (pc' := 52) D_Exam_canPlan_0.2.2.2.2 rfl) ?_
            exact z_ret (w := some (vI 0)) I (fun g => gk0 _ g bz0) ⟨_, bz0, rfl⟩ D_Exam_canPlan_1 rfl
  exact main _ hF (by rw [hG0])
set_option maxHeartbeats 4000000 in
set_option maxRecDepth 20000 in
theorem c_Exam_plans {l : Launch} {τ : TP} {o : Int} {x1 : Int} {x2 : Int} {x3 : Int} {h : HP} {r : Int} {h' : HP} (hw : wf τ) (ao : ok τ (4, 1) o) (ax1 : inR x1) (ax2 : inR x2) (ax3 : inR x3) (hh : hr τ h) (hF : m_Exam_plans o x1 x2 x3 h = some (r, h')) : Ctr l y_Exam_plans k_Exam_plans 4 (Option.some FieldType.int) 0 0 τ (fun ad => [vR ad o, vI x1, vI x2, vI x3]) h (some (vI r)) h' (inR r) := by
  refine ctr_of (by decide) hw hh (fun ad => Nat.le_of_ble_eq_true rfl) (fun ad K Y I hK => ?_)
  obtain ⟨G0, hG0⟩ : ∃ G : Int × HP → Prop, G = fun x => x = (r, h') := ⟨_, rfl⟩
  have gk0 : ∀ (x : Int) (y : HP), G0 (x, y) → inR x → K (some (vI x)) y := fun x y g q => by
    rw [hG0] at g
    cases g
    exact hK q
  have main : Z Y (m_Exam_plans o x1 x2 x3 h) G0 h 0 [(0, vR ad o), (1, vI x1), (2, vI x2), (3, vI x3)] [] := by
    unfold m_Exam_plans
    refine z_s I (s_aload_n (pc' := 1) 0 rfl D_Exam_plans_0.1.1.1.1 rfl rfl) ?_
    refine z_getR (pc' := 4) (eI := o + 27) I g_Exam_58 ao rfl (by omega) D_Exam_plans_0.1.1.1.2 rfl ?_
    have k1 : ok τ (0, 8) (o + 27) := r_Exam_planWhat hw ao (by omega)
    refine z_s I (s_aload_n (pc' := 5) 0 rfl D_Exam_plans_0.1.1.2.1 rfl rfl) ?_
    refine z_getI (pc' := 8) (jI := 3) I g_Exam_21 ao rfl rfl D_Exam_plans_0.1.1.2.2 rfl (fun f2 => ?_)
    refine z_s I (s_iload_n (pc' := 9) 1 rfl D_Exam_plans_0.1.2.1.1 rfl rfl) ?_
    refine z_iast (pc' := 10) (nI := 8) I k1 f2 ax1 rfl D_Exam_plans_0.1.2.1.2 rfl (fun c3 => ?_)
    refine z_bH (fun h4 e5 => ?_)
    refine z_s I (s_aload_n (pc' := 11) 0 rfl D_Exam_plans_0.1.2.2.1 rfl rfl) ?_
    refine z_getR (pc' := 14) (eI := o + 28) I g_Exam_61 ao rfl (by omega) D_Exam_plans_0.1.2.2.2 rfl ?_
    have k6 : ok τ (0, 8) (o + 28) := r_Exam_planK hw ao (by omega)
    refine z_s I (s_aload_n (pc' := 15) 0 rfl D_Exam_plans_0.2.1.1.1 rfl rfl) ?_
    refine z_getI (pc' := 18) (jI := 3) I g_Exam_21 ao rfl rfl D_Exam_plans_0.2.1.1.2 rfl (fun f7 => ?_)
    refine z_s I (s_iload_n (pc' := 19) 2 rfl D_Exam_plans_0.2.1.2.1 rfl rfl) ?_
    refine z_iast (pc' := 20) (nI := 8) I k6 f7 ax2 rfl D_Exam_plans_0.2.1.2.2 rfl (fun c8 => ?_)
    refine z_bH (fun h9 e10 => ?_)
    refine z_s I (s_aload_n (pc' := 21) 0 rfl D_Exam_plans_0.2.2.1.1 rfl rfl) ?_
    refine z_getR (pc' := 24) (eI := o + 29) I g_Exam_64 ao rfl (by omega) D_Exam_plans_0.2.2.1.2 rfl ?_
    have k11 : ok τ (0, 8) (o + 29) := r_Exam_planV hw ao (by omega)
    refine z_s I (s_aload_n (pc' := 25) 0 rfl D_Exam_plans_0.2.2.2.1 rfl rfl) ?_
    refine z_getI (pc' := 28) (jI := 3) I g_Exam_21 ao rfl rfl D_Exam_plans_0.2.2.2.2 rfl (fun f12 => ?_)
    refine z_s I (s_iload_n (pc' := 29) 3 rfl D_Exam_plans_1.1.1.1 rfl rfl) ?_
    refine z_iast (pc' := 30) (nI := 8) I k11 f12 ax3 rfl D_Exam_plans_1.1.1.2 rfl (fun c13 => ?_)
    refine z_bH (fun h14 e15 => ?_)
    refine z_s I (s_aload_n (pc' := 31) 0 rfl D_Exam_plans_1.1.2.1 rfl rfl) ?_
    refine z_s I (s_dup (pc' := 32) rfl D_Exam_plans_1.1.2.2.1 rfl) ?_
    refine z_getI (pc' := 35) (jI := 3) I g_Exam_21 ao rfl rfl D_Exam_plans_1.1.2.2.2 rfl (fun f16 => ?_)
    refine z_s I (s_iconst (pc' := 36) D_Exam_plans_1.2.1.1 rfl) ?_
    refine z_s I (s_iadd (pc' := 37) D_Exam_plans_1.2.1.2.1 rfl) ?_
    refine z_putI (pc' := 40) (jI := 3) I p_Exam_21 ao rfl rfl (inR_w32 _) D_Exam_plans_1.2.1.2.2 rfl ?_
    refine z_bH (fun h17 e18 => ?_)
    refine z_s I (s_aload_n (pc' := 41) 0 rfl D_Exam_plans_1.2.2.1 rfl rfl) ?_
    refine z_getI (pc' := 44) (jI := 3) I g_Exam_21 ao rfl rfl D_Exam_plans_1.2.2.2.1 rfl (fun f19 => ?_)
    exact z_ret (w := some (vI (h17 o 3))) I (fun g => gk0 _ _ g f19) ⟨_, rfl⟩ D_Exam_plans_1.2.2.2.2 rfl
  exact main _ hF (by rw [hG0])
