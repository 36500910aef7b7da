set_option maxHeartbeats 20000000 in
set_option maxRecDepth 20000 in
theorem law_walk {l : Launch} {τ : TP} {ad : Nat → Nat} {K : Option Value → HP → Prop} {Y : HP → Nat → List (Nat × Value) → List Value → Prop} {b L : Nat} {xs0 : Nat → Int32} {r1 r2 m : Int} {xs : Int → Int} {h h1 : HP} (IL : Isl l τ ad code 4 "CopyBenchLaw" room_1 (some .boolean) K Y b L xs0) (hw : wf τ) (ar1 : ok τ (4, 9) r1) (ar2 : ok τ (4, 10) r2) (hxs : xs = fun i : Int => (xs0 i.toNat).toInt) (hm : (L : Int) = m) (gm : inR m) (hK : ∀ h, K (some (vI 1)) h) (hF : m_law_from r1 r2 xs m h = some (1, h1)) : Y h 16 [(0, .ref b), (1, vR ad r1), (2, vR ad r2)] [] := by
  have I := IL.isy
  have hxr : ∀ i, inR (xs i) := fun i => by rw [hxs]; exact inR_of _
  obtain ⟨G0, hG0⟩ : ∃ G : Int × HP → Prop, G = fun p => p.1 = 1 := ⟨_, rfl⟩
  have gk0 : ∀ (x : Int) (y : HP), G0 (x, y) → b01 x → K (some (vI x)) y := fun x y g q => by
    rw [hG0] at g
    have g' : x = 1 := g
    rw [g']
    exact hK y
  have L18 : ∀ (s : Int × HP), (inR (s.1)) → Z Y (m_law_L18 r1 r2 xs m s) G0 (s.2) 18 [(0, .ref b), (1, vR ad r1), (2, vR ad r2), (3, vI (s.1))] [] := by
    intro s hs
    refine z_loop (G := G0) (hO := fun s : Int × HP => s.2) (lO := fun s : Int × HP => [(0, .ref b), (1, vR ad r1), (2, vR ad r2), (3, vI (s.1))]) (Φ := fun s : Int × HP => inR (s.1)) (fun G1 hin1_1 hout1 s hs => ?_) FUEL s hs
    obtain ⟨x3, h⟩ := s
    have ax3 := hs
    have gk1 := fun (x : Int) (y : HP) (g : G1 (.inr ((x, y)))) (q : b01 x) => gk0 x y (hout1 _ g) q
    have J224 : ∀ (x3 : Int) (ax3 : inR x3) (h : HP), Z Y (m_law_J224 r1 r2 x3 xs m h) G1 h 224 [(0, .ref b), (1, vR ad r1), (2, vR ad r2), (3, vI x3)] [] := by
      intro x3 ax3 h
      unfold m_law_J224
      refine z_s I (s_aload_n (pc' := 225) 1 rfl D_law_1.1.2.2.1 rfl rfl) ?_
      refine z_s I (s_raload_n (pc' := 226) 0 rfl D_law_1.1.2.2.2 rfl rfl) ?_
      refine z_s I (s_iload_n (pc' := 227) 3 rfl D_law_1.2.1.1.1 rfl rfl) ?_
      refine z_s I (s_iconst (pc' := 228) D_law_1.2.1.1.2 rfl) ?_
      refine z_s I (s_iadd (pc' := 229) D_law_1.2.1.2.1 rfl) ?_
      refine z_sld (pc' := 230) IL hm hxs (inR_w32 _) D_law_1.2.1.2.2 rfl (fun c1 => ?_)
      refine z_b2 (fun r4 h5 q3 => ?_)
      refine z_callV (pc' := 233) I mv_Cb_items ml_law_13 (fun ad => [vI (xs (w32 (x3 + 1)))]) ⟨Nat.le_of_ble_eq_true rfl, Nat.le_of_ble_eq_true rfl⟩ ar1 (fun hh => c_Cb_items hw ar1 (hxr _) hh q3) rfl rfl (Nat.le_of_ble_eq_true rfl) D_law_1.2.2.1.1 rfl (fun f2 => ?_)
      refine z_s I (s_aload_n (pc' := 234) 2 rfl D_law_1.2.2.1.2 rfl rfl) ?_
      refine z_s I (s_raload_n (pc' := 235) 0 rfl D_law_1.2.2.2.1 rfl rfl) ?_
      refine z_s I (s_iload_n (pc' := 236) 3 rfl D_law_1.2.2.2.2 rfl rfl) ?_
      refine z_s I (s_iconst (pc' := 237) D_law_2.1.1.1.1 rfl) ?_
      refine z_s I (s_iadd (pc' := 238) D_law_2.1.1.1.2 rfl) ?_
      refine z_sld (pc' := 239) IL hm hxs (inR_w32 _) D_law_2.1.1.2.1 rfl (fun c6 => ?_)
      refine z_b2 (fun r9 h10 q8 => ?_)
      refine z_callV (pc' := 242) I mv_Md_items ml_law_17 (fun ad => [vI (xs (w32 (x3 + 1)))]) ⟨Nat.le_of_ble_eq_true rfl, Nat.le_of_ble_eq_true rfl⟩ ar2 (fun hh => c_Md_items hw ar2 (hxr _) hh q8) rfl rfl (Nat.le_of_ble_eq_true rfl) D_law_2.1.1.2.2 rfl (fun f7 => ?_)
      refine z_icmp_eq (tgt := 1790) (pc' := 245) I f2 f7 D_law_2.1.2.1.1 rfl rfl (fun c11 => ?_) (fun c11 => ?_)
      · refine z_s I (s_iinc (pc' := 1793) (lv' := [(3, vI (w32 (x3 + 6))), (0, .ref b), (1, vR ad r1), (2, vR ad r2)]) (n := 3) rfl D_law_81.2.2.2.1 (by decide) rfl rfl) ?_
        refine z_s I (s_goto (tgt := 18) D_law_81.2.2.2.2 rfl) ?_
        refine z_s I (s_lv (lv' := [(0, .ref b), (1, vR ad r1), (2, vR ad r2), (3, vI (w32 (x3 + 6)))]) [1, 2, 3, 0] rfl) ?_
        exact z_end (fun g => hin1_1 _ g (inR_w32 _))
      · refine z_s I (s_iconst (pc' := 246) D_law_2.1.2.1.2 rfl) ?_
        exact z_ret (w := some (vI 0)) I (fun g => gk1 _ _ g bz0) ⟨_, bz0, rfl⟩ D_law_2.1.2.2.1 rfl
    have J247 : ∀ (x3 : Int) (ax3 : inR x3) (h : HP), Z Y (m_law_J247 r1 r2 x3 xs m h) G1 h 247 [(0, .ref b), (1, vR ad r1), (2, vR ad r2), (3, vI x3)] [] := by
      intro x3 ax3 h
      unfold m_law_J247
      refine z_s I (s_aload_n (pc' := 248) 1 rfl D_law_2.1.2.2.2 rfl rfl) ?_
      refine z_s I (s_raload_n (pc' := 249) 0 rfl D_law_2.2.1.1.1 rfl rfl) ?_
      refine z_s I (s_iload_n (pc' := 250) 3 rfl D_law_2.2.1.1.2 rfl rfl) ?_
      refine z_s I (s_iconst (pc' := 251) D_law_2.2.1.2.1 rfl) ?_
      refine z_s I (s_iadd (pc' := 252) D_law_2.2.1.2.2 rfl) ?_
      refine z_sld (pc' := 253) IL hm hxs (inR_w32 _) D_law_2.2.2.1.1 rfl (fun c12 => ?_)
      refine z_s I (s_raload_n (pc' := 254) 0 rfl D_law_2.2.2.1.2 rfl rfl) ?_
      refine z_s I (s_iload_n (pc' := 255) 3 rfl D_law_2.2.2.2.1 rfl rfl) ?_
      refine z_s I (s_iconst (pc' := 256) D_law_2.2.2.2.2 rfl) ?_
      refine z_s I (s_iadd (pc' := 257) D_law_3.1.1.1.1 rfl) ?_
      refine z_sld (pc' := 258) IL hm hxs (inR_w32 _) D_law_3.1.1.1.2 rfl (fun c13 => ?_)
      refine z_b2 (fun r16 h17 q15 => ?_)
      refine z_callV (pc' := 261) I mv_Cb_right ml_law_18 (fun ad => [vI (xs (w32 (x3 + 1))), vI (xs (w32 (x3 + 2)))]) ⟨Nat.le_of_ble_eq_true rfl, Nat.le_of_ble_eq_true rfl⟩ ar1 (fun hh => c_Cb_right hw ar1 (hxr _) (hxr _) hh q15) rfl rfl (Nat.le_of_ble_eq_true rfl) D_law_3.1.1.2.1 rfl (fun f14 => ?_)
      refine z_s I (s_aload_n (pc' := 262) 2 rfl D_law_3.1.1.2.2 rfl rfl) ?_
      refine z_s I (s_raload_n (pc' := 263) 0 rfl D_law_3.1.2.1.1 rfl rfl) ?_
      refine z_s I (s_iload_n (pc' := 264) 3 rfl D_law_3.1.2.1.2 rfl rfl) ?_
      refine z_s I (s_iconst (pc' := 265) D_law_3.1.2.2.1 rfl) ?_
      refine z_s I (s_iadd (pc' := 266) D_law_3.1.2.2.2 rfl) ?_
      refine z_sld (pc' := 267) IL hm hxs (inR_w32 _) D_law_3.2.1.1.1 rfl (fun c18 => ?_)
      refine z_s I (s_raload_n (pc' := 268) 0 rfl D_law_3.2.1.1.2 rfl rfl) ?_
      refine z_s I (s_iload_n (pc' := 269) 3 rfl D_law_3.2.1.2.1 rfl rfl) ?_
      refine z_s I (s_iconst (pc' := 270) D_law_3.2.1.2.2 rfl) ?_
      refine z_s I (s_iadd (pc' := 271) D_law_3.2.2.1.1 rfl) ?_
      refine z_sld (pc' := 272) IL hm hxs (inR_w32 _) D_law_3.2.2.1.2 rfl (fun c19 => ?_)
      refine z_b2 (fun r22 h23 q21 => ?_)
      refine z_callV (pc' := 275) I mv_Md_right ml_law_22 (fun ad => [vI (xs (w32 (x3 + 1))), vI (xs (w32 (x3 + 2)))]) ⟨Nat.le_of_ble_eq_true rfl, Nat.le_of_ble_eq_true rfl⟩ ar2 (fun hh => c_Md_right hw ar2 (hxr _) (hxr _) hh q21) rfl rfl (Nat.le_of_ble_eq_true rfl) D_law_3.2.2.2.1 rfl (fun f20 => ?_)
      refine z_icmp_eq (tgt := 1790) (pc' := 278) I f14 f20 D_law_3.2.2.2.2 rfl rfl (fun c24 => ?_) (fun c24 => ?_)
      · refine z_s I (s_iinc (pc' := 1793) (lv' := [(3, vI (w32 (x3 + 6))), (0, .ref b), (1, vR ad r1), (2, vR ad r2)]) (n := 3) rfl D_law_81.2.2.2.1 (by decide) rfl rfl) ?_
        refine z_s I (s_goto (tgt := 18) D_law_81.2.2.2.2 rfl) ?_
        refine z_s I (s_lv (lv' := [(0, .ref b), (1, vR ad r1), (2, vR ad r2), (3, vI (w32 (x3 + 6)))]) [1, 2, 3, 0] rfl) ?_
        exact z_end (fun g => hin1_1 _ g (inR_w32 _))
      · refine z_s I (s_iconst (pc' := 279) D_law_4.1.1.1.1 rfl) ?_
        exact z_ret (w := some (vI 0)) I (fun g => gk1 _ _ g bz0) ⟨_, bz0, rfl⟩ D_law_4.1.1.1.2 rfl
    have J280 : ∀ (x3 : Int) (ax3 : inR x3) (h : HP), Z Y (m_law_J280 r1 r2 x3 xs m h) G1 h 280 [(0, .ref b), (1, vR ad r1), (2, vR ad r2), (3, vI x3)] [] := by
      intro x3 ax3 h
      unfold m_law_J280
      refine z_s I (s_aload_n (pc' := 281) 1 rfl D_law_4.1.1.2.1 rfl rfl) ?_
      refine z_s I (s_raload_n (pc' := 282) 0 rfl D_law_4.1.1.2.2 rfl rfl) ?_
      refine z_s I (s_iload_n (pc' := 283) 3 rfl D_law_4.1.2.1.1 rfl rfl) ?_
      refine z_s I (s_iconst (pc' := 284) D_law_4.1.2.1.2 rfl) ?_
      refine z_s I (s_iadd (pc' := 285) D_law_4.1.2.2.1 rfl) ?_
      refine z_sld (pc' := 286) IL hm hxs (inR_w32 _) D_law_4.1.2.2.2 rfl (fun c25 => ?_)
      refine z_s I (s_raload_n (pc' := 287) 0 rfl D_law_4.2.1.1.1 rfl rfl) ?_
      refine z_s I (s_iload_n (pc' := 288) 3 rfl D_law_4.2.1.1.2 rfl rfl) ?_
      refine z_s I (s_iconst (pc' := 289) D_law_4.2.1.2.1 rfl) ?_
      refine z_s I (s_iadd (pc' := 290) D_law_4.2.1.2.2 rfl) ?_
      refine z_sld (pc' := 291) IL hm hxs (inR_w32 _) D_law_4.2.2.1.1 rfl (fun c26 => ?_)
      refine z_b2 (fun r29 h30 q28 => ?_)
      refine z_callV (pc' := 294) I mv_Cb_model ml_law_23 (fun ad => [vI (xs (w32 (x3 + 1))), vI (xs (w32 (x3 + 2)))]) ⟨Nat.le_of_ble_eq_true rfl, Nat.le_of_ble_eq_true rfl⟩ ar1 (fun hh => c_Cb_model hw ar1 (hxr _) (hxr _) hh q28) rfl rfl (Nat.le_of_ble_eq_true rfl) D_law_4.2.2.1.2 rfl (fun f27 => ?_)
      refine z_s I (s_aload_n (pc' := 295) 2 rfl D_law_4.2.2.2.1 rfl rfl) ?_
      refine z_s I (s_raload_n (pc' := 296) 0 rfl D_law_4.2.2.2.2 rfl rfl) ?_
      refine z_s I (s_iload_n (pc' := 297) 3 rfl D_law_5.1.1.1.1 rfl rfl) ?_
      refine z_s I (s_iconst (pc' := 298) D_law_5.1.1.1.2 rfl) ?_
      refine z_s I (s_iadd (pc' := 299) D_law_5.1.1.2.1 rfl) ?_
      refine z_sld (pc' := 300) IL hm hxs (inR_w32 _) D_law_5.1.1.2.2 rfl (fun c31 => ?_)
      refine z_s I (s_raload_n (pc' := 301) 0 rfl D_law_5.1.2.1.1 rfl rfl) ?_
      refine z_s I (s_iload_n (pc' := 302) 3 rfl D_law_5.1.2.1.2 rfl rfl) ?_
      refine z_s I (s_iconst (pc' := 303) D_law_5.1.2.2.1 rfl) ?_
      refine z_s I (s_iadd (pc' := 304) D_law_5.1.2.2.2 rfl) ?_
      refine z_sld (pc' := 305) IL hm hxs (inR_w32 _) D_law_5.2.1.1.1 rfl (fun c32 => ?_)
      refine z_b2 (fun r35 h36 q34 => ?_)
      refine z_callV (pc' := 308) I mv_Md_model ml_law_26 (fun ad => [vI (xs (w32 (x3 + 1))), vI (xs (w32 (x3 + 2)))]) ⟨Nat.le_of_ble_eq_true rfl, Nat.le_of_ble_eq_true rfl⟩ ar2 (fun hh => c_Md_model hw ar2 (hxr _) (hxr _) hh q34) rfl rfl (Nat.le_of_ble_eq_true rfl) D_law_5.2.1.1.2 rfl (fun f33 => ?_)
      refine z_icmp_eq (tgt := 1790) (pc' := 311) I f27 f33 D_law_5.2.1.2.1 rfl rfl (fun c37 => ?_) (fun c37 => ?_)
      · refine z_s I (s_iinc (pc' := 1793) (lv' := [(3, vI (w32 (x3 + 6))), (0, .ref b), (1, vR ad r1), (2, vR ad r2)]) (n := 3) rfl D_law_81.2.2.2.1 (by decide) rfl rfl) ?_
        refine z_s I (s_goto (tgt := 18) D_law_81.2.2.2.2 rfl) ?_
        refine z_s I (s_lv (lv' := [(0, .ref b), (1, vR ad r1), (2, vR ad r2), (3, vI (w32 (x3 + 6)))]) [1, 2, 3, 0] rfl) ?_
        exact z_end (fun g => hin1_1 _ g (inR_w32 _))
      · refine z_s I (s_iconst (pc' := 312) D_law_5.2.1.2.2 rfl) ?_
        exact z_ret (w := some (vI 0)) I (fun g => gk1 _ _ g bz0) ⟨_, bz0, rfl⟩ D_law_5.2.2.1.1 rfl
    have J313 : ∀ (x3 : Int) (ax3 : inR x3) (h : HP), Z Y (m_law_J313 r1 r2 x3 xs m h) G1 h 313 [(0, .ref b), (1, vR ad r1), (2, vR ad r2), (3, vI x3)] [] := by
      intro x3 ax3 h
      unfold m_law_J313
      refine z_s I (s_aload_n (pc' := 314) 1 rfl D_law_5.2.2.1.2 rfl rfl) ?_
      refine z_s I (s_raload_n (pc' := 315) 0 rfl D_law_5.2.2.2.1 rfl rfl) ?_
      refine z_s I (s_iload_n (pc' := 316) 3 rfl D_law_5.2.2.2.2 rfl rfl) ?_
      refine z_s I (s_iconst (pc' := 317) D_law_6.1.1.1.1 rfl) ?_
      refine z_s I (s_iadd (pc' := 318) D_law_6.1.1.1.2 rfl) ?_
      refine z_sld (pc' := 319) IL hm hxs (inR_w32 _) D_law_6.1.1.2.1 rfl (fun c38 => ?_)
      refine z_s I (s_raload_n (pc' := 320) 0 rfl D_law_6.1.1.2.2 rfl rfl) ?_
      refine z_s I (s_iload_n (pc' := 321) 3 rfl D_law_6.1.2.1.1 rfl rfl) ?_
      refine z_s I (s_iconst (pc' := 322) D_law_6.1.2.1.2 rfl) ?_
      refine z_s I (s_iadd (pc' := 323) D_law_6.1.2.2.1 rfl) ?_
      refine z_sld (pc' := 324) IL hm hxs (inR_w32 _) D_law_6.1.2.2.2 rfl (fun c39 => ?_)
      refine z_s I (s_raload_n (pc' := 325) 0 rfl D_law_6.2.1.1.1 rfl rfl) ?_
      refine z_s I (s_iload_n (pc' := 326) 3 rfl D_law_6.2.1.1.2 rfl rfl) ?_
      refine z_s I (s_iconst (pc' := 327) D_law_6.2.1.2.1 rfl) ?_
      refine z_s I (s_iadd (pc' := 328) D_law_6.2.1.2.2 rfl) ?_
      refine z_sld (pc' := 329) IL hm hxs (inR_w32 _) D_law_6.2.2.1.1 rfl (fun c40 => ?_)
      refine z_b2 (fun r43 h44 q42 => ?_)
      refine z_callV (pc' := 332) I mv_Cb_part ml_law_27 (fun ad => [vI (xs (w32 (x3 + 1))), vI (xs (w32 (x3 + 2))), vI (xs (w32 (x3 + 3)))]) ⟨Nat.le_of_ble_eq_true rfl, Nat.le_of_ble_eq_true rfl⟩ ar1 (fun hh => c_Cb_part hw ar1 (hxr _) (hxr _) (hxr _) hh q42) rfl rfl (Nat.le_of_ble_eq_true rfl) D_law_6.2.2.1.2 rfl (fun f41 => ?_)
      refine z_s I (s_aload_n (pc' := 333) 2 rfl D_law_6.2.2.2.1 rfl rfl) ?_
      refine z_s I (s_raload_n (pc' := 334) 0 rfl D_law_6.2.2.2.2 rfl rfl) ?_
      refine z_s I (s_iload_n (pc' := 335) 3 rfl D_law_7.1.1.1.1 rfl rfl) ?_
      refine z_s I (s_iconst (pc' := 336) D_law_7.1.1.1.2 rfl) ?_
      refine z_s I (s_iadd (pc' := 337) D_law_7.1.1.2.1 rfl) ?_
      refine z_sld (pc' := 338) IL hm hxs (inR_w32 _) D_law_7.1.1.2.2 rfl (fun c45 => ?_)
      refine z_s I (s_raload_n (pc' := 339) 0 rfl D_law_7.1.2.1.1 rfl rfl) ?_
      refine z_s I (s_iload_n (pc' := 340) 3 rfl D_law_7.1.2.1.2 rfl rfl) ?_
      refine z_s I (s_iconst (pc' := 341) D_law_7.1.2.2.1 rfl) ?_
      refine z_s I (s_iadd (pc' := 342) D_law_7.1.2.2.2 rfl) ?_
      refine z_sld (pc' := 343) IL hm hxs (inR_w32 _) D_law_7.2.1.1.1 rfl (fun c46 => ?_)
      refine z_s I (s_raload_n (pc' := 344) 0 rfl D_law_7.2.1.1.2 rfl rfl) ?_
      refine z_s I (s_iload_n (pc' := 345) 3 rfl D_law_7.2.1.2.1 rfl rfl) ?_
      refine z_s I (s_iconst (pc' := 346) D_law_7.2.1.2.2 rfl) ?_
      refine z_s I (s_iadd (pc' := 347) D_law_7.2.2.1.1 rfl) ?_
      refine z_sld (pc' := 348) IL hm hxs (inR_w32 _) D_law_7.2.2.1.2 rfl (fun c47 => ?_)
      refine z_b2 (fun r50 h51 q49 => ?_)
      refine z_callV (pc' := 351) I mv_Md_part ml_law_31 (fun ad => [vI (xs (w32 (x3 + 1))), vI (xs (w32 (x3 + 2))), vI (xs (w32 (x3 + 3)))]) ⟨Nat.le_of_ble_eq_true rfl, Nat.le_of_ble_eq_true rfl⟩ ar2 (fun hh => c_Md_part hw ar2 (hxr _) (hxr _) (hxr _) hh q49) rfl rfl (Nat.le_of_ble_eq_true rfl) D_law_7.2.2.2.1 rfl (fun f48 => ?_)
      refine z_icmp_eq (tgt := 1790) (pc' := 354) I f41 f48 D_law_7.2.2.2.2 rfl rfl (fun c52 => ?_) (fun c52 => ?_)
      · refine z_s I (s_iinc (pc' := 1793) (lv' := [(3, vI (w32 (x3 + 6))), (0, .ref b), (1, vR ad r1), (2, vR ad r2)]) (n := 3) rfl D_law_81.2.2.2.1 (by decide) rfl rfl) ?_
        refine z_s I (s_goto (tgt := 18) D_law_81.2.2.2.2 rfl) ?_
        refine z_s I (s_lv (lv' := [(0, .ref b), (1, vR ad r1), (2, vR ad r2), (3, vI (w32 (x3 + 6)))]) [1, 2, 3, 0] rfl) ?_
        exact z_end (fun g => hin1_1 _ g (inR_w32 _))
      · refine z_s I (s_iconst (pc' := 355) D_law_8.1.1.1.1 rfl) ?_
        exact z_ret (w := some (vI 0)) I (fun g => gk1 _ _ g bz0) ⟨_, bz0, rfl⟩ D_law_8.1.1.1.2 rfl
    have J356 : ∀ (x3 : Int) (ax3 : inR x3) (h : HP), Z Y (m_law_J356 r1 r2 x3 xs m h) G1 h 356 [(0, .ref b), (1, vR ad r1), (2, vR ad r2), (3, vI x3)] [] := by
      intro x3 ax3 h
      unfold m_law_J356
      refine z_s I (s_aload_n (pc' := 357) 1 rfl D_law_8.1.1.2.1 rfl rfl) ?_
      refine z_b2 (fun r55 h56 q54 => ?_)
      refine z_callV (pc' := 360) I mv_Cb_candidate ml_law_32 (fun ad => []) ⟨Nat.le_of_ble_eq_true rfl, Nat.le_of_ble_eq_true rfl⟩ ar1 (fun hh => c_Cb_candidate hw ar1 hh q54) rfl rfl (Nat.le_of_ble_eq_true rfl) D_law_8.1.1.2.2 rfl (fun f53 => ?_)
      refine z_s I (s_aload_n (pc' := 361) 2 rfl D_law_8.1.2.1.1 rfl rfl) ?_
      refine z_b2 (fun r59 h60 q58 => ?_)
      refine z_callV (pc' := 364) I mv_Md_candidate ml_law_36 (fun ad => []) ⟨Nat.le_of_ble_eq_true rfl, Nat.le_of_ble_eq_true rfl⟩ ar2 (fun hh => c_Md_candidate hw ar2 hh q58) rfl rfl (Nat.le_of_ble_eq_true rfl) D_law_8.1.2.1.2 rfl (fun f57 => ?_)
      refine z_icmp_eq (tgt := 1790) (pc' := 367) I f53 f57 D_law_8.1.2.2.1 rfl rfl (fun c61 => ?_) (fun c61 => ?_)
      · refine z_s I (s_iinc (pc' := 1793) (lv' := [(3, vI (w32 (x3 + 6))), (0, .ref b), (1, vR ad r1), (2, vR ad r2)]) (n := 3) rfl D_law_81.2.2.2.1 (by decide) rfl rfl) ?_
        refine z_s I (s_goto (tgt := 18) D_law_81.2.2.2.2 rfl) ?_
        refine z_s I (s_lv (lv' := [(0, .ref b), (1, vR ad r1), (2, vR ad r2), (3, vI (w32 (x3 + 6)))]) [1, 2, 3, 0] rfl) ?_
        exact z_end (fun g => hin1_1 _ g (inR_w32 _))
      · refine z_s I (s_iconst (pc' := 368) D_law_8.1.2.2.2 rfl) ?_
        exact z_ret (w := some (vI 0)) I (fun g => gk1 _ _ g bz0) ⟨_, bz0, rfl⟩ D_law_8.2.1.1.1 rfl
    have J369 : ∀ (x3 : Int) (ax3 : inR x3) (h : HP), Z Y (m_law_J369 r1 r2 x3 xs m h) G1 h 369 [(0, .ref b), (1, vR ad r1), (2, vR ad r2), (3, vI x3)] [] := by
      intro x3 ax3 h
      unfold m_law_J369
      refine z_s I (s_aload_n (pc' := 370) 1 rfl D_law_8.2.1.1.2 rfl rfl) ?_
      refine z_s I (s_raload_n (pc' := 371) 0 rfl D_law_8.2.1.2.1 rfl rfl) ?_
      refine z_s I (s_iload_n (pc' := 372) 3 rfl D_law_8.2.1.2.2 rfl rfl) ?_
      refine z_s I (s_iconst (pc' := 373) D_law_8.2.2.1.1 rfl) ?_
      refine z_s I (s_iadd (pc' := 374) D_law_8.2.2.1.2 rfl) ?_
      refine z_sld (pc' := 375) IL hm hxs (inR_w32 _) D_law_8.2.2.2.1 rfl (fun c62 => ?_)
      refine z_s I (s_raload_n (pc' := 376) 0 rfl D_law_8.2.2.2.2 rfl rfl) ?_
      refine z_s I (s_iload_n (pc' := 377) 3 rfl D_law_9.1.1.1.1 rfl rfl) ?_
      refine z_s I (s_iconst (pc' := 378) D_law_9.1.1.1.2 rfl) ?_
      refine z_s I (s_iadd (pc' := 379) D_law_9.1.1.2.1 rfl) ?_
      refine z_sld (pc' := 380) IL hm hxs (inR_w32 _) D_law_9.1.1.2.2 rfl (fun c63 => ?_)
      refine z_s I (s_raload_n (pc' := 381) 0 rfl D_law_9.1.2.1.1 rfl rfl) ?_
      refine z_s I (s_iload_n (pc' := 382) 3 rfl D_law_9.1.2.1.2 rfl rfl) ?_
      refine z_s I (s_iconst (pc' := 383) D_law_9.1.2.2.1 rfl) ?_
      refine z_s I (s_iadd (pc' := 384) D_law_9.1.2.2.2 rfl) ?_
      refine z_sld (pc' := 385) IL hm hxs (inR_w32 _) D_law_9.2.1.1.1 rfl (fun c64 => ?_)
      refine z_b2 (fun r67 h68 q66 => ?_)
      refine z_callV (pc' := 388) I mv_Cb_gives ml_law_37 (fun ad => [vI (xs (w32 (x3 + 1))), vI (xs (w32 (x3 + 2))), vI (xs (w32 (x3 + 3)))]) ⟨Nat.le_of_ble_eq_true rfl, Nat.le_of_ble_eq_true rfl⟩ ar1 (fun hh => c_Cb_gives hw ar1 (hxr _) (hxr _) (hxr _) hh q66) rfl rfl (Nat.le_of_ble_eq_true rfl) D_law_9.2.1.1.2 rfl (fun f65 => ?_)
      refine z_s I (s_aload_n (pc' := 389) 2 rfl D_law_9.2.1.2.1 rfl rfl) ?_
      refine z_s I (s_raload_n (pc' := 390) 0 rfl D_law_9.2.1.2.2 rfl rfl) ?_
      refine z_s I (s_iload_n (pc' := 391) 3 rfl D_law_9.2.2.1.1 rfl rfl) ?_
      refine z_s I (s_iconst (pc' := 392) D_law_9.2.2.1.2 rfl) ?_
      refine z_s I (s_iadd (pc' := 393) D_law_9.2.2.2.1 rfl) ?_
      refine z_sld (pc' := 394) IL hm hxs (inR_w32 _) D_law_9.2.2.2.2 rfl (fun c69 => ?_)
      refine z_s I (s_raload_n (pc' := 395) 0 rfl D_law_10.1.1.1.1 rfl rfl) ?_
      refine z_s I (s_iload_n (pc' := 396) 3 rfl D_law_10.1.1.1.2 rfl rfl) ?_
      refine z_s I (s_iconst (pc' := 397) D_law_10.1.1.2.1 rfl) ?_
      refine z_s I (s_iadd (pc' := 398) D_law_10.1.1.2.2 rfl) ?_
      refine z_sld (pc' := 399) IL hm hxs (inR_w32 _) D_law_10.1.2.1.1 rfl (fun c70 => ?_)
      refine z_s I (s_raload_n (pc' := 400) 0 rfl D_law_10.1.2.1.2 rfl rfl) ?_
      refine z_s I (s_iload_n (pc' := 401) 3 rfl D_law_10.1.2.2.1 rfl rfl) ?_
      refine z_s I (s_iconst (pc' := 402) D_law_10.1.2.2.2 rfl) ?_
      refine z_s I (s_iadd (pc' := 403) D_law_10.2.1.1.1 rfl) ?_
      refine z_sld (pc' := 404) IL hm hxs (inR_w32 _) D_law_10.2.1.1.2 rfl (fun c71 => ?_)
      refine z_b2 (fun r74 h75 q73 => ?_)
      refine z_callV (pc' := 407) I mv_Md_gives ml_law_40 (fun ad => [vI (xs (w32 (x3 + 1))), vI (xs (w32 (x3 + 2))), vI (xs (w32 (x3 + 3)))]) ⟨Nat.le_of_ble_eq_true rfl, Nat.le_of_ble_eq_true rfl⟩ ar2 (fun hh => c_Md_gives hw ar2 (hxr _) (hxr _) (hxr _) hh q73) rfl rfl (Nat.le_of_ble_eq_true rfl) D_law_10.2.1.2.1 rfl (fun f72 => ?_)
      refine z_icmp_eq (tgt := 1790) (pc' := 410) I f65 f72 D_law_10.2.1.2.2 rfl rfl (fun c76 => ?_) (fun c76 => ?_)
      · refine z_s I (s_iinc (pc' := 1793) (lv' := [(3, vI (w32 (x3 + 6))), (0, .ref b), (1, vR ad r1), (2, vR ad r2)]) (n := 3) rfl D_law_81.2.2.2.1 (by decide) rfl rfl) ?_
        refine z_s I (s_goto (tgt := 18) D_law_81.2.2.2.2 rfl) ?_
        refine z_s I (s_lv (lv' := [(0, .ref b), (1, vR ad r1), (2, vR ad r2), (3, vI (w32 (x3 + 6)))]) [1, 2, 3, 0] rfl) ?_
        exact z_end (fun g => hin1_1 _ g (inR_w32 _))
      · refine z_s I (s_iconst (pc' := 411) D_law_10.2.2.1.1 rfl) ?_
        exact z_ret (w := some (vI 0)) I (fun g => gk1 _ _ g bz0) ⟨_, bz0, rfl⟩ D_law_10.2.2.1.2 rfl
    have J412 : ∀ (x3 : Int) (ax3 : inR x3) (h : HP), Z Y (m_law_J412 r1 r2 x3 xs m h) G1 h 412 [(0, .ref b), (1, vR ad r1), (2, vR ad r2), (3, vI x3)] [] := by
      intro x3 ax3 h
      unfold m_law_J412
      refine z_s I (s_aload_n (pc' := 413) 1 rfl D_law_10.2.2.2.1 rfl rfl) ?_
      refine z_s I (s_raload_n (pc' := 414) 0 rfl D_law_10.2.2.2.2 rfl rfl) ?_
      refine z_s I (s_iload_n (pc' := 415) 3 rfl D_law_11.1.1.1.1 rfl rfl) ?_
      refine z_s I (s_iconst (pc' := 416) D_law_11.1.1.1.2 rfl) ?_
      refine z_s I (s_iadd (pc' := 417) D_law_11.1.1.2.1 rfl) ?_
      refine z_sld (pc' := 418) IL hm hxs (inR_w32 _) D_law_11.1.1.2.2 rfl (fun c77 => ?_)
      refine z_s I (s_raload_n (pc' := 419) 0 rfl D_law_11.1.2.1.1 rfl rfl) ?_
      refine z_s I (s_iload_n (pc' := 420) 3 rfl D_law_11.1.2.1.2 rfl rfl) ?_
      refine z_s I (s_iconst (pc' := 421) D_law_11.1.2.2.1 rfl) ?_
      refine z_s I (s_iadd (pc' := 422) D_law_11.1.2.2.2 rfl) ?_
      refine z_sld (pc' := 423) IL hm hxs (inR_w32 _) D_law_11.2.1.1.1 rfl (fun c78 => ?_)
      refine z_s I (s_raload_n (pc' := 424) 0 rfl D_law_11.2.1.1.2 rfl rfl) ?_
      refine z_s I (s_iload_n (pc' := 425) 3 rfl D_law_11.2.1.2.1 rfl rfl) ?_
      refine z_s I (s_iconst (pc' := 426) D_law_11.2.1.2.2 rfl) ?_
      refine z_s I (s_iadd (pc' := 427) D_law_11.2.2.1.1 rfl) ?_
      refine z_sld (pc' := 428) IL hm hxs (inR_w32 _) D_law_11.2.2.1.2 rfl (fun c79 => ?_)
      refine z_b2 (fun r82 h83 q81 => ?_)
      refine z_callV (pc' := 431) I mv_Cb_seat ml_law_41 (fun ad => [vI (xs (w32 (x3 + 1))), vI (xs (w32 (x3 + 2))), vI (xs (w32 (x3 + 3)))]) ⟨Nat.le_of_ble_eq_true rfl, Nat.le_of_ble_eq_true rfl⟩ ar1 (fun hh => c_Cb_seat hw ar1 (hxr _) (hxr _) (hxr _) hh q81) rfl rfl (Nat.le_of_ble_eq_true rfl) D_law_11.2.2.2.1 rfl (fun f80 => ?_)
      refine z_s I (s_aload_n (pc' := 432) 2 rfl D_law_11.2.2.2.2 rfl rfl) ?_
      refine z_s I (s_raload_n (pc' := 433) 0 rfl D_law_12.1.1.1.1 rfl rfl) ?_
      refine z_s I (s_iload_n (pc' := 434) 3 rfl D_law_12.1.1.1.2 rfl rfl) ?_
      refine z_s I (s_iconst (pc' := 435) D_law_12.1.1.2.1 rfl) ?_
      refine z_s I (s_iadd (pc' := 436) D_law_12.1.1.2.2 rfl) ?_
      refine z_sld (pc' := 437) IL hm hxs (inR_w32 _) D_law_12.1.2.1.1 rfl (fun c84 => ?_)
      refine z_s I (s_raload_n (pc' := 438) 0 rfl D_law_12.1.2.1.2 rfl rfl) ?_
      refine z_s I (s_iload_n (pc' := 439) 3 rfl D_law_12.1.2.2.1 rfl rfl) ?_
      refine z_s I (s_iconst (pc' := 440) D_law_12.1.2.2.2 rfl) ?_
      refine z_s I (s_iadd (pc' := 441) D_law_12.2.1.1.1 rfl) ?_
      refine z_sld (pc' := 442) IL hm hxs (inR_w32 _) D_law_12.2.1.1.2 rfl (fun c85 => ?_)
      refine z_s I (s_raload_n (pc' := 443) 0 rfl D_law_12.2.1.2.1 rfl rfl) ?_
      refine z_s I (s_iload_n (pc' := 444) 3 rfl D_law_12.2.1.2.2 rfl rfl) ?_
      refine z_s I (s_iconst (pc' := 445) D_law_12.2.2.1.1 rfl) ?_
      refine z_s I (s_iadd (pc' := 446) D_law_12.2.2.1.2 rfl) ?_
      refine z_sld (pc' := 447) IL hm hxs (inR_w32 _) D_law_12.2.2.2.1 rfl (fun c86 => ?_)
      refine z_b2 (fun r89 h90 q88 => ?_)
      refine z_callV (pc' := 450) I mv_Md_seat ml_law_44 (fun ad => [vI (xs (w32 (x3 + 1))), vI (xs (w32 (x3 + 2))), vI (xs (w32 (x3 + 3)))]) ⟨Nat.le_of_ble_eq_true rfl, Nat.le_of_ble_eq_true rfl⟩ ar2 (fun hh => c_Md_seat hw ar2 (hxr _) (hxr _) (hxr _) hh q88) rfl rfl (Nat.le_of_ble_eq_true rfl) D_law_12.2.2.2.2 rfl (fun f87 => ?_)
      refine z_icmp_eq (tgt := 1790) (pc' := 453) I f80 f87 D_law_13.1.1.1.1 rfl rfl (fun c91 => ?_) (fun c91 => ?_)
      · refine z_s I (s_iinc (pc' := 1793) (lv' := [(3, vI (w32 (x3 + 6))), (0, .ref b), (1, vR ad r1), (2, vR ad r2)]) (n := 3) rfl D_law_81.2.2.2.1 (by decide) rfl rfl) ?_
        refine z_s I (s_goto (tgt := 18) D_law_81.2.2.2.2 rfl) ?_
        refine z_s I (s_lv (lv' := [(0, .ref b), (1, vR ad r1), (2, vR ad r2), (3, vI (w32 (x3 + 6)))]) [1, 2, 3, 0] rfl) ?_
        exact z_end (fun g => hin1_1 _ g (inR_w32 _))
      · refine z_s I (s_iconst (pc' := 454) D_law_13.1.1.1.2 rfl) ?_
        exact z_ret (w := some (vI 0)) I (fun g => gk1 _ _ g bz0) ⟨_, bz0, rfl⟩ D_law_13.1.1.2.1 rfl
    have J455 : ∀ (x3 : Int) (ax3 : inR x3) (h : HP), Z Y (m_law_J455 r1 r2 x3 xs m h) G1 h 455 [(0, .ref b), (1, vR ad r1), (2, vR ad r2), (3, vI x3)] [] := by
      intro x3 ax3 h
      unfold m_law_J455
      refine z_s I (s_aload_n (pc' := 456) 1 rfl D_law_13.1.1.2.2 rfl rfl) ?_
      refine z_s I (s_raload_n (pc' := 457) 0 rfl D_law_13.1.2.1.1 rfl rfl) ?_
      refine z_s I (s_iload_n (pc' := 458) 3 rfl D_law_13.1.2.1.2 rfl rfl) ?_
      refine z_s I (s_iconst (pc' := 459) D_law_13.1.2.2.1 rfl) ?_
      refine z_s I (s_iadd (pc' := 460) D_law_13.1.2.2.2 rfl) ?_
      refine z_sld (pc' := 461) IL hm hxs (inR_w32 _) D_law_13.2.1.1.1 rfl (fun c92 => ?_)
      refine z_b2 (fun r95 h96 q94 => ?_)
      refine z_callV (pc' := 464) I mv_Cb_feed ml_law_45 (fun ad => [vI (xs (w32 (x3 + 1)))]) ⟨Nat.le_of_ble_eq_true rfl, Nat.le_of_ble_eq_true rfl⟩ ar1 (fun hh => c_Cb_feed hw ar1 (hxr _) hh q94) rfl rfl (Nat.le_of_ble_eq_true rfl) D_law_13.2.1.1.2 rfl (fun f93 => ?_)
      refine z_s I (s_aload_n (pc' := 465) 2 rfl D_law_13.2.1.2.1 rfl rfl) ?_
      refine z_s I (s_raload_n (pc' := 466) 0 rfl D_law_13.2.1.2.2 rfl rfl) ?_
      refine z_s I (s_iload_n (pc' := 467) 3 rfl D_law_13.2.2.1.1 rfl rfl) ?_
      refine z_s I (s_iconst (pc' := 468) D_law_13.2.2.1.2 rfl) ?_
      refine z_s I (s_iadd (pc' := 469) D_law_13.2.2.2.1 rfl) ?_
      refine z_sld (pc' := 470) IL hm hxs (inR_w32 _) D_law_13.2.2.2.2 rfl (fun c97 => ?_)
      refine z_b2 (fun r100 h101 q99 => ?_)
      refine z_callV (pc' := 473) I mv_Md_feed ml_law_48 (fun ad => [vI (xs (w32 (x3 + 1)))]) ⟨Nat.le_of_ble_eq_true rfl, Nat.le_of_ble_eq_true rfl⟩ ar2 (fun hh => c_Md_feed hw ar2 (hxr _) hh q99) rfl rfl (Nat.le_of_ble_eq_true rfl) D_law_14.1.1.1.1 rfl (fun f98 => ?_)
      refine z_icmp_eq (tgt := 1790) (pc' := 476) I f93 f98 D_law_14.1.1.1.2 rfl rfl (fun c102 => ?_) (fun c102 => ?_)
      · refine z_s I (s_iinc (pc' := 1793) (lv' := [(3, vI (w32 (x3 + 6))), (0, .ref b), (1, vR ad r1), (2, vR ad r2)]) (n := 3) rfl D_law_81.2.2.2.1 (by decide) rfl rfl) ?_
        refine z_s I (s_goto (tgt := 18) D_law_81.2.2.2.2 rfl) ?_
        refine z_s I (s_lv (lv' := [(0, .ref b), (1, vR ad r1), (2, vR ad r2), (3, vI (w32 (x3 + 6)))]) [1, 2, 3, 0] rfl) ?_
        exact z_end (fun g => hin1_1 _ g (inR_w32 _))
      · refine z_s I (s_iconst (pc' := 477) D_law_14.1.1.2.1 rfl) ?_
        exact z_ret (w := some (vI 0)) I (fun g => gk1 _ _ g bz0) ⟨_, bz0, rfl⟩ D_law_14.1.1.2.2 rfl
    have J478 : ∀ (x3 : Int) (ax3 : inR x3) (h : HP), Z Y (m_law_J478 r1 r2 x3 xs m h) G1 h 478 [(0, .ref b), (1, vR ad r1), (2, vR ad r2), (3, vI x3)] [] := by
      intro x3 ax3 h
      unfold m_law_J478
      refine z_s I (s_aload_n (pc' := 479) 1 rfl D_law_14.1.2.1.1 rfl rfl) ?_
      refine z_b2 (fun r105 h106 q104 => ?_)
      refine z_callV (pc' := 482) I mv_Cb_read ml_law_49 (fun ad => []) ⟨Nat.le_of_ble_eq_true rfl, Nat.le_of_ble_eq_true rfl⟩ ar1 (fun hh => c_Cb_read hw ar1 hh q104) rfl rfl (Nat.le_of_ble_eq_true rfl) D_law_14.1.2.1.2 rfl (fun f103 => ?_)
      refine z_s I (s_aload_n (pc' := 483) 2 rfl D_law_14.1.2.2.1 rfl rfl) ?_
      refine z_b2 (fun r109 h110 q108 => ?_)
      refine z_callV (pc' := 486) I mv_Md_read ml_law_52 (fun ad => []) ⟨Nat.le_of_ble_eq_true rfl, Nat.le_of_ble_eq_true rfl⟩ ar2 (fun hh => c_Md_read hw ar2 hh q108) rfl rfl (Nat.le_of_ble_eq_true rfl) D_law_14.1.2.2.2 rfl (fun f107 => ?_)
      refine z_icmp_eq (tgt := 1790) (pc' := 489) I f103 f107 D_law_14.2.1.1.1 rfl rfl (fun c111 => ?_) (fun c111 => ?_)
      · refine z_s I (s_iinc (pc' := 1793) (lv' := [(3, vI (w32 (x3 + 6))), (0, .ref b), (1, vR ad r1), (2, vR ad r2)]) (n := 3) rfl D_law_81.2.2.2.1 (by decide) rfl rfl) ?_
        refine z_s I (s_goto (tgt := 18) D_law_81.2.2.2.2 rfl) ?_
        refine z_s I (s_lv (lv' := [(0, .ref b), (1, vR ad r1), (2, vR ad r2), (3, vI (w32 (x3 + 6)))]) [1, 2, 3, 0] rfl) ?_
        exact z_end (fun g => hin1_1 _ g (inR_w32 _))
      · refine z_s I (s_iconst (pc' := 490) D_law_14.2.1.1.2 rfl) ?_
        exact z_ret (w := some (vI 0)) I (fun g => gk1 _ _ g bz0) ⟨_, bz0, rfl⟩ D_law_14.2.1.2.1 rfl
    have J491 : ∀ (x3 : Int) (ax3 : inR x3) (h : HP), Z Y (m_law_J491 r1 r2 x3 xs m h) G1 h 491 [(0, .ref b), (1, vR ad r1), (2, vR ad r2), (3, vI x3)] [] := by
      intro x3 ax3 h
      unfold m_law_J491
      refine z_s I (s_aload_n (pc' := 492) 1 rfl D_law_14.2.1.2.2 rfl rfl) ?_
      refine z_s I (s_raload_n (pc' := 493) 0 rfl D_law_14.2.2.1.1 rfl rfl) ?_
      refine z_s I (s_iload_n (pc' := 494) 3 rfl D_law_14.2.2.1.2 rfl rfl) ?_
      refine z_s I (s_iconst (pc' := 495) D_law_14.2.2.2.1 rfl) ?_
      refine z_s I (s_iadd (pc' := 496) D_law_14.2.2.2.2 rfl) ?_
      refine z_sld (pc' := 497) IL hm hxs (inR_w32 _) D_law_15.1.1.1.1 rfl (fun c112 => ?_)
      refine z_s I (s_raload_n (pc' := 498) 0 rfl D_law_15.1.1.1.2 rfl rfl) ?_
      refine z_s I (s_iload_n (pc' := 499) 3 rfl D_law_15.1.1.2.1 rfl rfl) ?_
      refine z_s I (s_iconst (pc' := 500) D_law_15.1.1.2.2 rfl) ?_
      refine z_s I (s_iadd (pc' := 501) D_law_15.1.2.1.1 rfl) ?_
      refine z_sld (pc' := 502) IL hm hxs (inR_w32 _) D_law_15.1.2.1.2 rfl (fun c113 => ?_)
      refine z_b2 (fun r116 h117 q115 => ?_)
      refine z_callV (pc' := 505) I mv_Cb_use ml_law_53 (fun ad => [vI (xs (w32 (x3 + 1))), vI (xs (w32 (x3 + 2)))]) ⟨Nat.le_of_ble_eq_true rfl, Nat.le_of_ble_eq_true rfl⟩ ar1 (fun hh => c_Cb_use hw ar1 (hxr _) (hxr _) hh q115) rfl rfl (Nat.le_of_ble_eq_true rfl) D_law_15.1.2.2.1 rfl (fun f114 => ?_)
      refine z_s I (s_aload_n (pc' := 506) 2 rfl D_law_15.1.2.2.2 rfl rfl) ?_
      refine z_s I (s_raload_n (pc' := 507) 0 rfl D_law_15.2.1.1.1 rfl rfl) ?_
      refine z_s I (s_iload_n (pc' := 508) 3 rfl D_law_15.2.1.1.2 rfl rfl) ?_
      refine z_s I (s_iconst (pc' := 509) D_law_15.2.1.2.1 rfl) ?_
      refine z_s I (s_iadd (pc' := 510) D_law_15.2.1.2.2 rfl) ?_
      refine z_sld (pc' := 511) IL hm hxs (inR_w32 _) D_law_15.2.2.1.1 rfl (fun c118 => ?_)
      refine z_s I (s_raload_n (pc' := 512) 0 rfl D_law_15.2.2.1.2 rfl rfl) ?_
      refine z_s I (s_iload_n (pc' := 513) 3 rfl D_law_15.2.2.2.1 rfl rfl) ?_
      refine z_s I (s_iconst (pc' := 514) D_law_15.2.2.2.2 rfl) ?_
      refine z_s I (s_iadd (pc' := 515) D_law_16.1.1.1.1 rfl) ?_
      refine z_sld (pc' := 516) IL hm hxs (inR_w32 _) D_law_16.1.1.1.2 rfl (fun c119 => ?_)
      refine z_b2 (fun r122 h123 q121 => ?_)
      refine z_callV (pc' := 519) I mv_Md_use ml_law_56 (fun ad => [vI (xs (w32 (x3 + 1))), vI (xs (w32 (x3 + 2)))]) ⟨Nat.le_of_ble_eq_true rfl, Nat.le_of_ble_eq_true rfl⟩ ar2 (fun hh => c_Md_use hw ar2 (hxr _) (hxr _) hh q121) rfl rfl (Nat.le_of_ble_eq_true rfl) D_law_16.1.1.2.1 rfl (fun f120 => ?_)
      refine z_icmp_eq (tgt := 1790) (pc' := 522) I f114 f120 D_law_16.1.1.2.2 rfl rfl (fun c124 => ?_) (fun c124 => ?_)
      · refine z_s I (s_iinc (pc' := 1793) (lv' := [(3, vI (w32 (x3 + 6))), (0, .ref b), (1, vR ad r1), (2, vR ad r2)]) (n := 3) rfl D_law_81.2.2.2.1 (by decide) rfl rfl) ?_
        refine z_s I (s_goto (tgt := 18) D_law_81.2.2.2.2 rfl) ?_
        refine z_s I (s_lv (lv' := [(0, .ref b), (1, vR ad r1), (2, vR ad r2), (3, vI (w32 (x3 + 6)))]) [1, 2, 3, 0] rfl) ?_
        exact z_end (fun g => hin1_1 _ g (inR_w32 _))
      · refine z_s I (s_iconst (pc' := 523) D_law_16.1.2.1.1 rfl) ?_
        exact z_ret (w := some (vI 0)) I (fun g => gk1 _ _ g bz0) ⟨_, bz0, rfl⟩ D_law_16.1.2.1.2 rfl
    have J524 : ∀ (x3 : Int) (ax3 : inR x3) (h : HP), Z Y (m_law_J524 r1 r2 x3 xs m h) G1 h 524 [(0, .ref b), (1, vR ad r1), (2, vR ad r2), (3, vI x3)] [] := by
      intro x3 ax3 h
      unfold m_law_J524
      refine z_s I (s_aload_n (pc' := 525) 1 rfl D_law_16.1.2.2.1 rfl rfl) ?_
      refine z_s I (s_raload_n (pc' := 526) 0 rfl D_law_16.1.2.2.2 rfl rfl) ?_
      refine z_s I (s_iload_n (pc' := 527) 3 rfl D_law_16.2.1.1.1 rfl rfl) ?_
      refine z_s I (s_iconst (pc' := 528) D_law_16.2.1.1.2 rfl) ?_
      refine z_s I (s_iadd (pc' := 529) D_law_16.2.1.2.1 rfl) ?_
      refine z_sld (pc' := 530) IL hm hxs (inR_w32 _) D_law_16.2.1.2.2 rfl (fun c125 => ?_)
      refine z_s I (s_raload_n (pc' := 531) 0 rfl D_law_16.2.2.1.1 rfl rfl) ?_
      refine z_s I (s_iload_n (pc' := 532) 3 rfl D_law_16.2.2.1.2 rfl rfl) ?_
      refine z_s I (s_iconst (pc' := 533) D_law_16.2.2.2.1 rfl) ?_
      refine z_s I (s_iadd (pc' := 534) D_law_16.2.2.2.2 rfl) ?_
      refine z_sld (pc' := 535) IL hm hxs (inR_w32 _) D_law_17.1.1.1.1 rfl (fun c126 => ?_)
      refine z_b1 (fun r129 q128 => ?_)
      refine z_callV (pc' := 538) I mv_Cb_answer ml_law_57 (fun ad => [vI (xs (w32 (x3 + 1))), vI (xs (w32 (x3 + 2)))]) ⟨Nat.le_of_ble_eq_true rfl, Nat.le_of_ble_eq_true rfl⟩ ar1 (fun hh => c_Cb_answer hw ar1 (hxr _) (hxr _) hh q128) rfl rfl (Nat.le_of_ble_eq_true rfl) D_law_17.1.1.1.2 rfl (fun f127 => ?_)
      refine z_s I (s_aload_n (pc' := 539) 2 rfl D_law_17.1.1.2.1 rfl rfl) ?_
      refine z_s I (s_raload_n (pc' := 540) 0 rfl D_law_17.1.1.2.2 rfl rfl) ?_
      refine z_s I (s_iload_n (pc' := 541) 3 rfl D_law_17.1.2.1.1 rfl rfl) ?_
      refine z_s I (s_iconst (pc' := 542) D_law_17.1.2.1.2 rfl) ?_
      refine z_s I (s_iadd (pc' := 543) D_law_17.1.2.2.1 rfl) ?_
      refine z_sld (pc' := 544) IL hm hxs (inR_w32 _) D_law_17.1.2.2.2 rfl (fun c130 => ?_)
      refine z_s I (s_raload_n (pc' := 545) 0 rfl D_law_17.2.1.1.1 rfl rfl) ?_
      refine z_s I (s_iload_n (pc' := 546) 3 rfl D_law_17.2.1.1.2 rfl rfl) ?_
      refine z_s I (s_iconst (pc' := 547) D_law_17.2.1.2.1 rfl) ?_
      refine z_s I (s_iadd (pc' := 548) D_law_17.2.1.2.2 rfl) ?_
      refine z_sld (pc' := 549) IL hm hxs (inR_w32 _) D_law_17.2.2.1.1 rfl (fun c131 => ?_)
      refine z_b1 (fun r134 q133 => ?_)
      refine z_callV (pc' := 552) I mv_Md_answer ml_law_60 (fun ad => [vI (xs (w32 (x3 + 1))), vI (xs (w32 (x3 + 2)))]) ⟨Nat.le_of_ble_eq_true rfl, Nat.le_of_ble_eq_true rfl⟩ ar2 (fun hh => c_Md_answer hw ar2 (hxr _) (hxr _) hh q133) rfl rfl (Nat.le_of_ble_eq_true rfl) D_law_17.2.2.1.2 rfl (fun f132 => ?_)
      refine z_icmp_eq (tgt := 1790) (pc' := 555) I f127 f132 D_law_17.2.2.2.1 rfl rfl (fun c135 => ?_) (fun c135 => ?_)
      · refine z_s I (s_iinc (pc' := 1793) (lv' := [(3, vI (w32 (x3 + 6))), (0, .ref b), (1, vR ad r1), (2, vR ad r2)]) (n := 3) rfl D_law_81.2.2.2.1 (by decide) rfl rfl) ?_
        refine z_s I (s_goto (tgt := 18) D_law_81.2.2.2.2 rfl) ?_
        refine z_s I (s_lv (lv' := [(0, .ref b), (1, vR ad r1), (2, vR ad r2), (3, vI (w32 (x3 + 6)))]) [1, 2, 3, 0] rfl) ?_
        exact z_end (fun g => hin1_1 _ g (inR_w32 _))
      · refine z_s I (s_iconst (pc' := 556) D_law_17.2.2.2.2 rfl) ?_
        exact z_ret (w := some (vI 0)) I (fun g => gk1 _ _ g bz0) ⟨_, bz0, rfl⟩ D_law_18.1.1.1.1 rfl
    have J557 : ∀ (x3 : Int) (ax3 : inR x3) (h : HP), Z Y (m_law_J557 r1 r2 x3 xs m h) G1 h 557 [(0, .ref b), (1, vR ad r1), (2, vR ad r2), (3, vI x3)] [] := by
      intro x3 ax3 h
      unfold m_law_J557
      refine z_s I (s_aload_n (pc' := 558) 1 rfl D_law_18.1.1.1.2 rfl rfl) ?_
      refine z_s I (s_raload_n (pc' := 559) 0 rfl D_law_18.1.1.2.1 rfl rfl) ?_
      refine z_s I (s_iload_n (pc' := 560) 3 rfl D_law_18.1.1.2.2 rfl rfl) ?_
      refine z_s I (s_iconst (pc' := 561) D_law_18.1.2.1.1 rfl) ?_
      refine z_s I (s_iadd (pc' := 562) D_law_18.1.2.1.2 rfl) ?_
      refine z_sld (pc' := 563) IL hm hxs (inR_w32 _) D_law_18.1.2.2.1 rfl (fun c136 => ?_)
      refine z_s I (s_raload_n (pc' := 564) 0 rfl D_law_18.1.2.2.2 rfl rfl) ?_
      refine z_s I (s_iload_n (pc' := 565) 3 rfl D_law_18.2.1.1.1 rfl rfl) ?_
      refine z_s I (s_iconst (pc' := 566) D_law_18.2.1.1.2 rfl) ?_
      refine z_s I (s_iadd (pc' := 567) D_law_18.2.1.2.1 rfl) ?_
      refine z_sld (pc' := 568) IL hm hxs (inR_w32 _) D_law_18.2.1.2.2 rfl (fun c137 => ?_)
      refine z_b1 (fun r140 q139 => ?_)
      refine z_callV (pc' := 571) I mv_Cb_of ml_law_61 (fun ad => [vI (xs (w32 (x3 + 1))), vI (xs (w32 (x3 + 2)))]) ⟨Nat.le_of_ble_eq_true rfl, Nat.le_of_ble_eq_true rfl⟩ ar1 (fun hh => c_Cb_of hw ar1 (hxr _) (hxr _) hh q139) rfl rfl (Nat.le_of_ble_eq_true rfl) D_law_18.2.2.1.1 rfl (fun f138 => ?_)
      refine z_s I (s_aload_n (pc' := 572) 2 rfl D_law_18.2.2.1.2 rfl rfl) ?_
      refine z_s I (s_raload_n (pc' := 573) 0 rfl D_law_18.2.2.2.1 rfl rfl) ?_
      refine z_s I (s_iload_n (pc' := 574) 3 rfl D_law_18.2.2.2.2 rfl rfl) ?_
      refine z_s I (s_iconst (pc' := 575) D_law_19.1.1.1.1 rfl) ?_
      refine z_s I (s_iadd (pc' := 576) D_law_19.1.1.1.2 rfl) ?_
      refine z_sld (pc' := 577) IL hm hxs (inR_w32 _) D_law_19.1.1.2.1 rfl (fun c141 => ?_)
      refine z_s I (s_raload_n (pc' := 578) 0 rfl D_law_19.1.1.2.2 rfl rfl) ?_
      refine z_s I (s_iload_n (pc' := 579) 3 rfl D_law_19.1.2.1.1 rfl rfl) ?_
      refine z_s I (s_iconst (pc' := 580) D_law_19.1.2.1.2 rfl) ?_
      refine z_s I (s_iadd (pc' := 581) D_law_19.1.2.2.1 rfl) ?_
      refine z_sld (pc' := 582) IL hm hxs (inR_w32 _) D_law_19.1.2.2.2 rfl (fun c142 => ?_)
      refine z_b1 (fun r145 q144 => ?_)
      refine z_callV (pc' := 585) I mv_Md_of ml_law_64 (fun ad => [vI (xs (w32 (x3 + 1))), vI (xs (w32 (x3 + 2)))]) ⟨Nat.le_of_ble_eq_true rfl, Nat.le_of_ble_eq_true rfl⟩ ar2 (fun hh => c_Md_of hw ar2 (hxr _) (hxr _) hh q144) rfl rfl (Nat.le_of_ble_eq_true rfl) D_law_19.2.1.1.1 rfl (fun f143 => ?_)
      refine z_icmp_eq (tgt := 1790) (pc' := 588) I f138 f143 D_law_19.2.1.1.2 rfl rfl (fun c146 => ?_) (fun c146 => ?_)
      · refine z_s I (s_iinc (pc' := 1793) (lv' := [(3, vI (w32 (x3 + 6))), (0, .ref b), (1, vR ad r1), (2, vR ad r2)]) (n := 3) rfl D_law_81.2.2.2.1 (by decide) rfl rfl) ?_
        refine z_s I (s_goto (tgt := 18) D_law_81.2.2.2.2 rfl) ?_
        refine z_s I (s_lv (lv' := [(0, .ref b), (1, vR ad r1), (2, vR ad r2), (3, vI (w32 (x3 + 6)))]) [1, 2, 3, 0] rfl) ?_
        exact z_end (fun g => hin1_1 _ g (inR_w32 _))
      · refine z_s I (s_iconst (pc' := 589) D_law_19.2.1.2.1 rfl) ?_
        exact z_ret (w := some (vI 0)) I (fun g => gk1 _ _ g bz0) ⟨_, bz0, rfl⟩ D_law_19.2.1.2.2 rfl
    have J590 : ∀ (x3 : Int) (ax3 : inR x3) (h : HP), Z Y (m_law_J590 r1 r2 x3 xs m h) G1 h 590 [(0, .ref b), (1, vR ad r1), (2, vR ad r2), (3, vI x3)] [] := by
      intro x3 ax3 h
      unfold m_law_J590
      refine z_s I (s_aload_n (pc' := 591) 1 rfl D_law_19.2.2.1.1 rfl rfl) ?_
      refine z_s I (s_raload_n (pc' := 592) 0 rfl D_law_19.2.2.1.2 rfl rfl) ?_
      refine z_s I (s_iload_n (pc' := 593) 3 rfl D_law_19.2.2.2.1 rfl rfl) ?_
      refine z_s I (s_iconst (pc' := 594) D_law_19.2.2.2.2 rfl) ?_
      refine z_s I (s_iadd (pc' := 595) D_law_20.1.1.1.1 rfl) ?_
      refine z_sld (pc' := 596) IL hm hxs (inR_w32 _) D_law_20.1.1.1.2 rfl (fun c147 => ?_)
      refine z_s I (s_raload_n (pc' := 597) 0 rfl D_law_20.1.1.2.1 rfl rfl) ?_
      refine z_s I (s_iload_n (pc' := 598) 3 rfl D_law_20.1.1.2.2 rfl rfl) ?_
      refine z_s I (s_iconst (pc' := 599) D_law_20.1.2.1.1 rfl) ?_
      refine z_s I (s_iadd (pc' := 600) D_law_20.1.2.1.2 rfl) ?_
      refine z_sld (pc' := 601) IL hm hxs (inR_w32 _) D_law_20.1.2.2.1 rfl (fun c148 => ?_)
      refine z_b1 (fun r151 q150 => ?_)
      refine z_callV (pc' := 604) I mv_Cb_itemOf ml_law_65 (fun ad => [vI (xs (w32 (x3 + 1))), vI (xs (w32 (x3 + 2)))]) ⟨Nat.le_of_ble_eq_true rfl, Nat.le_of_ble_eq_true rfl⟩ ar1 (fun hh => c_Cb_itemOf hw ar1 (hxr _) (hxr _) hh q150) rfl rfl (Nat.le_of_ble_eq_true rfl) D_law_20.1.2.2.2 rfl (fun f149 => ?_)
      refine z_s I (s_aload_n (pc' := 605) 2 rfl D_law_20.2.1.1.1 rfl rfl) ?_
      refine z_s I (s_raload_n (pc' := 606) 0 rfl D_law_20.2.1.1.2 rfl rfl) ?_
      refine z_s I (s_iload_n (pc' := 607) 3 rfl D_law_20.2.1.2.1 rfl rfl) ?_
      refine z_s I (s_iconst (pc' := 608) D_law_20.2.1.2.2 rfl) ?_
      refine z_s I (s_iadd (pc' := 609) D_law_20.2.2.1.1 rfl) ?_
      refine z_sld (pc' := 610) IL hm hxs (inR_w32 _) D_law_20.2.2.1.2 rfl (fun c152 => ?_)
      refine z_s I (s_raload_n (pc' := 611) 0 rfl D_law_20.2.2.2.1 rfl rfl) ?_
      refine z_s I (s_iload_n (pc' := 612) 3 rfl D_law_20.2.2.2.2 rfl rfl) ?_
      refine z_s I (s_iconst (pc' := 613) D_law_21.1.1.1.1 rfl) ?_
      refine z_s I (s_iadd (pc' := 614) D_law_21.1.1.1.2 rfl) ?_
      refine z_sld (pc' := 615) IL hm hxs (inR_w32 _) D_law_21.1.1.2.1 rfl (fun c153 => ?_)
      refine z_b1 (fun r156 q155 => ?_)
      refine z_callV (pc' := 618) I mv_Md_itemOf ml_law_68 (fun ad => [vI (xs (w32 (x3 + 1))), vI (xs (w32 (x3 + 2)))]) ⟨Nat.le_of_ble_eq_true rfl, Nat.le_of_ble_eq_true rfl⟩ ar2 (fun hh => c_Md_itemOf hw ar2 (hxr _) (hxr _) hh q155) rfl rfl (Nat.le_of_ble_eq_true rfl) D_law_21.1.1.2.2 rfl (fun f154 => ?_)
      refine z_icmp_eq (tgt := 1790) (pc' := 621) I f149 f154 D_law_21.1.2.1.1 rfl rfl (fun c157 => ?_) (fun c157 => ?_)
      · refine z_s I (s_iinc (pc' := 1793) (lv' := [(3, vI (w32 (x3 + 6))), (0, .ref b), (1, vR ad r1), (2, vR ad r2)]) (n := 3) rfl D_law_81.2.2.2.1 (by decide) rfl rfl) ?_
        refine z_s I (s_goto (tgt := 18) D_law_81.2.2.2.2 rfl) ?_
        refine z_s I (s_lv (lv' := [(0, .ref b), (1, vR ad r1), (2, vR ad r2), (3, vI (w32 (x3 + 6)))]) [1, 2, 3, 0] rfl) ?_
        exact z_end (fun g => hin1_1 _ g (inR_w32 _))
      · refine z_s I (s_iconst (pc' := 622) D_law_21.1.2.1.2 rfl) ?_
        exact z_ret (w := some (vI 0)) I (fun g => gk1 _ _ g bz0) ⟨_, bz0, rfl⟩ D_law_21.1.2.2.1 rfl
    have J623 : ∀ (x3 : Int) (ax3 : inR x3) (h : HP), Z Y (m_law_J623 r1 r2 x3 xs m h) G1 h 623 [(0, .ref b), (1, vR ad r1), (2, vR ad r2), (3, vI x3)] [] := by
      intro x3 ax3 h
      unfold m_law_J623
      refine z_s I (s_aload_n (pc' := 624) 1 rfl D_law_21.1.2.2.2 rfl rfl) ?_
      refine z_s I (s_raload_n (pc' := 625) 0 rfl D_law_21.2.1.1.1 rfl rfl) ?_
      refine z_s I (s_iload_n (pc' := 626) 3 rfl D_law_21.2.1.1.2 rfl rfl) ?_
      refine z_s I (s_iconst (pc' := 627) D_law_21.2.1.2.1 rfl) ?_
      refine z_s I (s_iadd (pc' := 628) D_law_21.2.1.2.2 rfl) ?_
      refine z_sld (pc' := 629) IL hm hxs (inR_w32 _) D_law_21.2.2.1.1 rfl (fun c158 => ?_)
      refine z_s I (s_raload_n (pc' := 630) 0 rfl D_law_21.2.2.1.2 rfl rfl) ?_
      refine z_s I (s_iload_n (pc' := 631) 3 rfl D_law_21.2.2.2.1 rfl rfl) ?_
      refine z_s I (s_iconst (pc' := 632) D_law_21.2.2.2.2 rfl) ?_
      refine z_s I (s_iadd (pc' := 633) D_law_22.1.1.1.1 rfl) ?_
      refine z_sld (pc' := 634) IL hm hxs (inR_w32 _) D_law_22.1.1.1.2 rfl (fun c159 => ?_)
      refine z_b1 (fun r162 q161 => ?_)
      refine z_callV (pc' := 637) I mv_Cb_taken ml_law_69 (fun ad => [vI (xs (w32 (x3 + 1))), vI (xs (w32 (x3 + 2)))]) ⟨Nat.le_of_ble_eq_true rfl, Nat.le_of_ble_eq_true rfl⟩ ar1 (fun hh => c_Cb_taken hw ar1 (hxr _) (hxr _) hh q161) rfl rfl (Nat.le_of_ble_eq_true rfl) D_law_22.1.1.2.1 rfl (fun f160 => ?_)
      refine z_s I (s_aload_n (pc' := 638) 2 rfl D_law_22.1.1.2.2 rfl rfl) ?_
      refine z_s I (s_raload_n (pc' := 639) 0 rfl D_law_22.1.2.1.1 rfl rfl) ?_
      refine z_s I (s_iload_n (pc' := 640) 3 rfl D_law_22.1.2.1.2 rfl rfl) ?_
      refine z_s I (s_iconst (pc' := 641) D_law_22.1.2.2.1 rfl) ?_
      refine z_s I (s_iadd (pc' := 642) D_law_22.1.2.2.2 rfl) ?_
      refine z_sld (pc' := 643) IL hm hxs (inR_w32 _) D_law_22.2.1.1.1 rfl (fun c163 => ?_)
      refine z_s I (s_raload_n (pc' := 644) 0 rfl D_law_22.2.1.1.2 rfl rfl) ?_
      refine z_s I (s_iload_n (pc' := 645) 3 rfl D_law_22.2.1.2.1 rfl rfl) ?_
      refine z_s I (s_iconst (pc' := 646) D_law_22.2.1.2.2 rfl) ?_
      refine z_s I (s_iadd (pc' := 647) D_law_22.2.2.1.1 rfl) ?_
      refine z_sld (pc' := 648) IL hm hxs (inR_w32 _) D_law_22.2.2.1.2 rfl (fun c164 => ?_)
      refine z_b1 (fun r167 q166 => ?_)
      refine z_callV (pc' := 651) I mv_Md_taken ml_law_72 (fun ad => [vI (xs (w32 (x3 + 1))), vI (xs (w32 (x3 + 2)))]) ⟨Nat.le_of_ble_eq_true rfl, Nat.le_of_ble_eq_true rfl⟩ ar2 (fun hh => c_Md_taken hw ar2 (hxr _) (hxr _) hh q166) rfl rfl (Nat.le_of_ble_eq_true rfl) D_law_22.2.2.2.1 rfl (fun f165 => ?_)
      refine z_icmp_eq (tgt := 1790) (pc' := 654) I f160 f165 D_law_22.2.2.2.2 rfl rfl (fun c168 => ?_) (fun c168 => ?_)
      · refine z_s I (s_iinc (pc' := 1793) (lv' := [(3, vI (w32 (x3 + 6))), (0, .ref b), (1, vR ad r1), (2, vR ad r2)]) (n := 3) rfl D_law_81.2.2.2.1 (by decide) rfl rfl) ?_
        refine z_s I (s_goto (tgt := 18) D_law_81.2.2.2.2 rfl) ?_
        refine z_s I (s_lv (lv' := [(0, .ref b), (1, vR ad r1), (2, vR ad r2), (3, vI (w32 (x3 + 6)))]) [1, 2, 3, 0] rfl) ?_
        exact z_end (fun g => hin1_1 _ g (inR_w32 _))
      · refine z_s I (s_iconst (pc' := 655) D_law_23.1.1.1.1 rfl) ?_
        exact z_ret (w := some (vI 0)) I (fun g => gk1 _ _ g bz0) ⟨_, bz0, rfl⟩ D_law_23.1.1.1.2 rfl
    have J656 : ∀ (x3 : Int) (ax3 : inR x3) (h : HP), Z Y (m_law_J656 r1 r2 x3 xs m h) G1 h 656 [(0, .ref b), (1, vR ad r1), (2, vR ad r2), (3, vI x3)] [] := by
      intro x3 ax3 h
      unfold m_law_J656
      refine z_s I (s_aload_n (pc' := 657) 1 rfl D_law_23.1.1.2.1 rfl rfl) ?_
      refine z_s I (s_raload_n (pc' := 658) 0 rfl D_law_23.1.1.2.2 rfl rfl) ?_
      refine z_s I (s_iload_n (pc' := 659) 3 rfl D_law_23.1.2.1.1 rfl rfl) ?_
      refine z_s I (s_iconst (pc' := 660) D_law_23.1.2.1.2 rfl) ?_
      refine z_s I (s_iadd (pc' := 661) D_law_23.1.2.2.1 rfl) ?_
      refine z_sld (pc' := 662) IL hm hxs (inR_w32 _) D_law_23.1.2.2.2 rfl (fun c169 => ?_)
      refine z_s I (s_raload_n (pc' := 663) 0 rfl D_law_23.2.1.1.1 rfl rfl) ?_
      refine z_s I (s_iload_n (pc' := 664) 3 rfl D_law_23.2.1.1.2 rfl rfl) ?_
      refine z_s I (s_iconst (pc' := 665) D_law_23.2.1.2.1 rfl) ?_
      refine z_s I (s_iadd (pc' := 666) D_law_23.2.1.2.2 rfl) ?_
      refine z_sld (pc' := 667) IL hm hxs (inR_w32 _) D_law_23.2.2.1.1 rfl (fun c170 => ?_)
      refine z_s I (s_raload_n (pc' := 668) 0 rfl D_law_23.2.2.1.2 rfl rfl) ?_
      refine z_s I (s_iload_n (pc' := 669) 3 rfl D_law_23.2.2.2.1 rfl rfl) ?_
      refine z_s I (s_iconst (pc' := 670) D_law_23.2.2.2.2 rfl) ?_
      refine z_s I (s_iadd (pc' := 671) D_law_24.1.1.1.1 rfl) ?_
      refine z_sld (pc' := 672) IL hm hxs (inR_w32 _) D_law_24.1.1.1.2 rfl (fun c171 => ?_)
      refine z_s I (s_raload_n (pc' := 673) 0 rfl D_law_24.1.1.2.1 rfl rfl) ?_
      refine z_s I (s_iload_n (pc' := 674) 3 rfl D_law_24.1.1.2.2 rfl rfl) ?_
      refine z_s I (s_iconst (pc' := 675) D_law_24.1.2.1.1 rfl) ?_
      refine z_s I (s_iadd (pc' := 676) D_law_24.1.2.1.2 rfl) ?_
      refine z_sld (pc' := 677) IL hm hxs (inR_w32 _) D_law_24.1.2.2.1 rfl (fun c172 => ?_)
      refine z_b2 (fun r175 h176 q174 => ?_)
      refine z_callV (pc' := 680) I mv_Cb_share ml_law_73 (fun ad => [vI (xs (w32 (x3 + 1))), vI (xs (w32 (x3 + 2))), vI (xs (w32 (x3 + 3))), vI (xs (w32 (x3 + 4)))]) ⟨Nat.le_of_ble_eq_true rfl, Nat.le_of_ble_eq_true rfl⟩ ar1 (fun hh => c_Cb_share hw ar1 (hxr _) (hxr _) (hxr _) (hxr _) hh q174) rfl rfl (Nat.le_of_ble_eq_true rfl) D_law_24.1.2.2.2 rfl (fun f173 => ?_)
      refine z_s I (s_aload_n (pc' := 681) 2 rfl D_law_24.2.1.1.1 rfl rfl) ?_
      refine z_s I (s_raload_n (pc' := 682) 0 rfl D_law_24.2.1.1.2 rfl rfl) ?_
      refine z_s I (s_iload_n (pc' := 683) 3 rfl D_law_24.2.1.2.1 rfl rfl) ?_
      refine z_s I (s_iconst (pc' := 684) D_law_24.2.1.2.2 rfl) ?_
      refine z_s I (s_iadd (pc' := 685) D_law_24.2.2.1.1 rfl) ?_
      refine z_sld (pc' := 686) IL hm hxs (inR_w32 _) D_law_24.2.2.1.2 rfl (fun c177 => ?_)
      refine z_s I (s_raload_n (pc' := 687) 0 rfl D_law_24.2.2.2.1 rfl rfl) ?_
      refine z_s I (s_iload_n (pc' := 688) 3 rfl D_law_24.2.2.2.2 rfl rfl) ?_
      refine z_s I (s_iconst (pc' := 689) D_law_25.1.1.1.1 rfl) ?_
      refine z_s I (s_iadd (pc' := 690) D_law_25.1.1.1.2 rfl) ?_
      refine z_sld (pc' := 691) IL hm hxs (inR_w32 _) D_law_25.1.1.2.1 rfl (fun c178 => ?_)
      refine z_s I (s_raload_n (pc' := 692) 0 rfl D_law_25.1.1.2.2 rfl rfl) ?_
      refine z_s I (s_iload_n (pc' := 693) 3 rfl D_law_25.1.2.1.1 rfl rfl) ?_
      refine z_s I (s_iconst (pc' := 694) D_law_25.1.2.1.2 rfl) ?_
      refine z_s I (s_iadd (pc' := 695) D_law_25.1.2.2.1 rfl) ?_
      refine z_sld (pc' := 696) IL hm hxs (inR_w32 _) D_law_25.1.2.2.2 rfl (fun c179 => ?_)
      refine z_s I (s_raload_n (pc' := 697) 0 rfl D_law_25.2.1.1.1 rfl rfl) ?_
      refine z_s I (s_iload_n (pc' := 698) 3 rfl D_law_25.2.1.1.2 rfl rfl) ?_
      refine z_s I (s_iconst (pc' := 699) D_law_25.2.1.2.1 rfl) ?_
      refine z_s I (s_iadd (pc' := 700) D_law_25.2.1.2.2 rfl) ?_
      refine z_sld (pc' := 701) IL hm hxs (inR_w32 _) D_law_25.2.2.1.1 rfl (fun c180 => ?_)
      refine z_b1 (fun r183 q182 => ?_)
      refine z_callV (pc' := 704) I mv_Md_share ml_law_77 (fun ad => [vI (xs (w32 (x3 + 1))), vI (xs (w32 (x3 + 2))), vI (xs (w32 (x3 + 3))), vI (xs (w32 (x3 + 4)))]) ⟨Nat.le_of_ble_eq_true rfl, Nat.le_of_ble_eq_true rfl⟩ ar2 (fun hh => c_Md_share hw ar2 (hxr _) (hxr _) (hxr _) (hxr _) hh q182) rfl rfl (Nat.le_of_ble_eq_true rfl) D_law_25.2.2.1.2 rfl (fun f181 => ?_)
      refine z_icmp_eq (tgt := 1790) (pc' := 707) I f173 f181 D_law_25.2.2.2.1 rfl rfl (fun c184 => ?_) (fun c184 => ?_)
      · refine z_s I (s_iinc (pc' := 1793) (lv' := [(3, vI (w32 (x3 + 6))), (0, .ref b), (1, vR ad r1), (2, vR ad r2)]) (n := 3) rfl D_law_81.2.2.2.1 (by decide) rfl rfl) ?_
        refine z_s I (s_goto (tgt := 18) D_law_81.2.2.2.2 rfl) ?_
        refine z_s I (s_lv (lv' := [(0, .ref b), (1, vR ad r1), (2, vR ad r2), (3, vI (w32 (x3 + 6)))]) [1, 2, 3, 0] rfl) ?_
        exact z_end (fun g => hin1_1 _ g (inR_w32 _))
      · refine z_s I (s_iconst (pc' := 708) D_law_25.2.2.2.2 rfl) ?_
        exact z_ret (w := some (vI 0)) I (fun g => gk1 _ _ g bz0) ⟨_, bz0, rfl⟩ D_law_26.1.1.1.1 rfl
    have J709 : ∀ (x3 : Int) (ax3 : inR x3) (h : HP), Z Y (m_law_J709 r1 r2 x3 xs m h) G1 h 709 [(0, .ref b), (1, vR ad r1), (2, vR ad r2), (3, vI x3)] [] := by
      intro x3 ax3 h
      unfold m_law_J709
      refine z_s I (s_aload_n (pc' := 710) 1 rfl D_law_26.1.1.1.2 rfl rfl) ?_
      refine z_s I (s_raload_n (pc' := 711) 0 rfl D_law_26.1.1.2.1 rfl rfl) ?_
      refine z_s I (s_iload_n (pc' := 712) 3 rfl D_law_26.1.1.2.2 rfl rfl) ?_
      refine z_s I (s_iconst (pc' := 713) D_law_26.1.2.1.1 rfl) ?_
      refine z_s I (s_iadd (pc' := 714) D_law_26.1.2.1.2 rfl) ?_
      refine z_sld (pc' := 715) IL hm hxs (inR_w32 _) D_law_26.1.2.2.1 rfl (fun c185 => ?_)
      refine z_s I (s_raload_n (pc' := 716) 0 rfl D_law_26.1.2.2.2 rfl rfl) ?_
      refine z_s I (s_iload_n (pc' := 717) 3 rfl D_law_26.2.1.1.1 rfl rfl) ?_
      refine z_s I (s_iconst (pc' := 718) D_law_26.2.1.1.2 rfl) ?_
      refine z_s I (s_iadd (pc' := 719) D_law_26.2.1.2.1 rfl) ?_
      refine z_sld (pc' := 720) IL hm hxs (inR_w32 _) D_law_26.2.1.2.2 rfl (fun c186 => ?_)
      refine z_b1 (fun r189 q188 => ?_)
      refine z_callV (pc' := 723) I mv_Cb_alike ml_law_78 (fun ad => [vI (xs (w32 (x3 + 1))), vI (xs (w32 (x3 + 2)))]) ⟨Nat.le_of_ble_eq_true rfl, Nat.le_of_ble_eq_true rfl⟩ ar1 (fun hh => c_Cb_alike hw ar1 (hxr _) (hxr _) hh q188) rfl rfl (Nat.le_of_ble_eq_true rfl) D_law_26.2.2.1.1 rfl (fun f187 => ?_)
      refine z_s I (s_aload_n (pc' := 724) 2 rfl D_law_26.2.2.1.2 rfl rfl) ?_
      refine z_s I (s_raload_n (pc' := 725) 0 rfl D_law_26.2.2.2.1 rfl rfl) ?_
      refine z_s I (s_iload_n (pc' := 726) 3 rfl D_law_26.2.2.2.2 rfl rfl) ?_
      refine z_s I (s_iconst (pc' := 727) D_law_27.1.1.1.1 rfl) ?_
      refine z_s I (s_iadd (pc' := 728) D_law_27.1.1.1.2 rfl) ?_
      refine z_sld (pc' := 729) IL hm hxs (inR_w32 _) D_law_27.1.1.2.1 rfl (fun c190 => ?_)
      refine z_s I (s_raload_n (pc' := 730) 0 rfl D_law_27.1.1.2.2 rfl rfl) ?_
      refine z_s I (s_iload_n (pc' := 731) 3 rfl D_law_27.1.2.1.1 rfl rfl) ?_
      refine z_s I (s_iconst (pc' := 732) D_law_27.1.2.1.2 rfl) ?_
      refine z_s I (s_iadd (pc' := 733) D_law_27.1.2.2.1 rfl) ?_
      refine z_sld (pc' := 734) IL hm hxs (inR_w32 _) D_law_27.1.2.2.2 rfl (fun c191 => ?_)
      refine z_b1 (fun r194 q193 => ?_)
      refine z_callV (pc' := 737) I mv_Md_alike ml_law_81 (fun ad => [vI (xs (w32 (x3 + 1))), vI (xs (w32 (x3 + 2)))]) ⟨Nat.le_of_ble_eq_true rfl, Nat.le_of_ble_eq_true rfl⟩ ar2 (fun hh => c_Md_alike hw ar2 (hxr _) (hxr _) hh q193) rfl rfl (Nat.le_of_ble_eq_true rfl) D_law_27.2.1.1.1 rfl (fun f192 => ?_)
      refine z_icmp_eq (tgt := 1790) (pc' := 740) I f187 f192 D_law_27.2.1.1.2 rfl rfl (fun c195 => ?_) (fun c195 => ?_)
      · refine z_s I (s_iinc (pc' := 1793) (lv' := [(3, vI (w32 (x3 + 6))), (0, .ref b), (1, vR ad r1), (2, vR ad r2)]) (n := 3) rfl D_law_81.2.2.2.1 (by decide) rfl rfl) ?_
        refine z_s I (s_goto (tgt := 18) D_law_81.2.2.2.2 rfl) ?_
        refine z_s I (s_lv (lv' := [(0, .ref b), (1, vR ad r1), (2, vR ad r2), (3, vI (w32 (x3 + 6)))]) [1, 2, 3, 0] rfl) ?_
        exact z_end (fun g => hin1_1 _ g (inR_w32 _))
      · refine z_s I (s_iconst (pc' := 741) D_law_27.2.1.2.1 rfl) ?_
        exact z_ret (w := some (vI 0)) I (fun g => gk1 _ _ g bz0) ⟨_, bz0, rfl⟩ D_law_27.2.1.2.2 rfl
    have J742 : ∀ (x3 : Int) (ax3 : inR x3) (h : HP), Z Y (m_law_J742 r1 r2 x3 xs m h) G1 h 742 [(0, .ref b), (1, vR ad r1), (2, vR ad r2), (3, vI x3)] [] := by
      intro x3 ax3 h
      unfold m_law_J742
      refine z_s I (s_aload_n (pc' := 743) 1 rfl D_law_27.2.2.1.1 rfl rfl) ?_
      refine z_s I (s_raload_n (pc' := 744) 0 rfl D_law_27.2.2.1.2 rfl rfl) ?_
      refine z_s I (s_iload_n (pc' := 745) 3 rfl D_law_27.2.2.2.1 rfl rfl) ?_
      refine z_s I (s_iconst (pc' := 746) D_law_27.2.2.2.2 rfl) ?_
      refine z_s I (s_iadd (pc' := 747) D_law_28.1.1.1.1 rfl) ?_
      refine z_sld (pc' := 748) IL hm hxs (inR_w32 _) D_law_28.1.1.1.2 rfl (fun c196 => ?_)
      refine z_s I (s_raload_n (pc' := 749) 0 rfl D_law_28.1.1.2.1 rfl rfl) ?_
      refine z_s I (s_iload_n (pc' := 750) 3 rfl D_law_28.1.1.2.2 rfl rfl) ?_
      refine z_s I (s_iconst (pc' := 751) D_law_28.1.2.1.1 rfl) ?_
      refine z_s I (s_iadd (pc' := 752) D_law_28.1.2.1.2 rfl) ?_
      refine z_sld (pc' := 753) IL hm hxs (inR_w32 _) D_law_28.1.2.2.1 rfl (fun c197 => ?_)
      refine z_s I (s_raload_n (pc' := 754) 0 rfl D_law_28.1.2.2.2 rfl rfl) ?_
      refine z_s I (s_iload_n (pc' := 755) 3 rfl D_law_28.2.1.1.1 rfl rfl) ?_
      refine z_s I (s_iconst (pc' := 756) D_law_28.2.1.1.2 rfl) ?_
      refine z_s I (s_iadd (pc' := 757) D_law_28.2.1.2.1 rfl) ?_
      refine z_sld (pc' := 758) IL hm hxs (inR_w32 _) D_law_28.2.1.2.2 rfl (fun c198 => ?_)
      refine z_s I (s_raload_n (pc' := 759) 0 rfl D_law_28.2.2.1.1 rfl rfl) ?_
      refine z_s I (s_iload_n (pc' := 760) 3 rfl D_law_28.2.2.1.2 rfl rfl) ?_
      refine z_s I (s_iconst (pc' := 761) D_law_28.2.2.2.1 rfl) ?_
      refine z_s I (s_iadd (pc' := 762) D_law_28.2.2.2.2 rfl) ?_
      refine z_sld (pc' := 763) IL hm hxs (inR_w32 _) D_law_29.1.1.1.1 rfl (fun c199 => ?_)
      refine z_b2 (fun r202 h203 q201 => ?_)
      refine z_callV (pc' := 766) I mv_Cb_odds ml_law_82 (fun ad => [vI (xs (w32 (x3 + 1))), vI (xs (w32 (x3 + 2))), vI (xs (w32 (x3 + 3))), vI (xs (w32 (x3 + 4)))]) ⟨Nat.le_of_ble_eq_true rfl, Nat.le_of_ble_eq_true rfl⟩ ar1 (fun hh => c_Cb_odds hw ar1 (hxr _) (hxr _) (hxr _) (hxr _) hh q201) rfl rfl (Nat.le_of_ble_eq_true rfl) D_law_29.1.1.1.2 rfl (fun f200 => ?_)
      refine z_s I (s_aload_n (pc' := 767) 2 rfl D_law_29.1.1.2.1 rfl rfl) ?_
      refine z_s I (s_raload_n (pc' := 768) 0 rfl D_law_29.1.1.2.2 rfl rfl) ?_
      refine z_s I (s_iload_n (pc' := 769) 3 rfl D_law_29.1.2.1.1 rfl rfl) ?_
      refine z_s I (s_iconst (pc' := 770) D_law_29.1.2.1.2 rfl) ?_
      refine z_s I (s_iadd (pc' := 771) D_law_29.1.2.2.1 rfl) ?_
      refine z_sld (pc' := 772) IL hm hxs (inR_w32 _) D_law_29.1.2.2.2 rfl (fun c204 => ?_)
      refine z_s I (s_raload_n (pc' := 773) 0 rfl D_law_29.2.1.1.1 rfl rfl) ?_
      refine z_s I (s_iload_n (pc' := 774) 3 rfl D_law_29.2.1.1.2 rfl rfl) ?_
      refine z_s I (s_iconst (pc' := 775) D_law_29.2.1.2.1 rfl) ?_
      refine z_s I (s_iadd (pc' := 776) D_law_29.2.1.2.2 rfl) ?_
      refine z_sld (pc' := 777) IL hm hxs (inR_w32 _) D_law_29.2.2.1.1 rfl (fun c205 => ?_)
      refine z_s I (s_raload_n (pc' := 778) 0 rfl D_law_29.2.2.1.2 rfl rfl) ?_
      refine z_s I (s_iload_n (pc' := 779) 3 rfl D_law_29.2.2.2.1 rfl rfl) ?_
      refine z_s I (s_iconst (pc' := 780) D_law_29.2.2.2.2 rfl) ?_
      refine z_s I (s_iadd (pc' := 781) D_law_30.1.1.1.1 rfl) ?_
      refine z_sld (pc' := 782) IL hm hxs (inR_w32 _) D_law_30.1.1.1.2 rfl (fun c206 => ?_)
      refine z_s I (s_raload_n (pc' := 783) 0 rfl D_law_30.1.1.2.1 rfl rfl) ?_
      refine z_s I (s_iload_n (pc' := 784) 3 rfl D_law_30.1.1.2.2 rfl rfl) ?_
      refine z_s I (s_iconst (pc' := 785) D_law_30.1.2.1.1 rfl) ?_
      refine z_s I (s_iadd (pc' := 786) D_law_30.1.2.1.2 rfl) ?_
      refine z_sld (pc' := 787) IL hm hxs (inR_w32 _) D_law_30.1.2.2.1 rfl (fun c207 => ?_)
      refine z_b2 (fun r210 h211 q209 => ?_)
      refine z_callV (pc' := 790) I mv_Md_odds ml_law_86 (fun ad => [vI (xs (w32 (x3 + 1))), vI (xs (w32 (x3 + 2))), vI (xs (w32 (x3 + 3))), vI (xs (w32 (x3 + 4)))]) ⟨Nat.le_of_ble_eq_true rfl, Nat.le_of_ble_eq_true rfl⟩ ar2 (fun hh => c_Md_odds hw ar2 (hxr _) (hxr _) (hxr _) (hxr _) hh q209) rfl rfl (Nat.le_of_ble_eq_true rfl) D_law_30.1.2.2.2 rfl (fun f208 => ?_)
      refine z_s I (s_lcmp (pc' := 791) f200 f208 D_law_30.2.1.1.1 rfl) ?_
      refine z_if_eq (tgt := 1790) (pc' := 794) I (inR_lCmp _ _) D_law_30.2.1.1.2 rfl rfl (fun c212 => ?_) (fun c212 => ?_)
      · refine z_s I (s_iinc (pc' := 1793) (lv' := [(3, vI (w32 (x3 + 6))), (0, .ref b), (1, vR ad r1), (2, vR ad r2)]) (n := 3) rfl D_law_81.2.2.2.1 (by decide) rfl rfl) ?_
        refine z_s I (s_goto (tgt := 18) D_law_81.2.2.2.2 rfl) ?_
        refine z_s I (s_lv (lv' := [(0, .ref b), (1, vR ad r1), (2, vR ad r2), (3, vI (w32 (x3 + 6)))]) [1, 2, 3, 0] rfl) ?_
        exact z_end (fun g => hin1_1 _ g (inR_w32 _))
      · refine z_s I (s_iconst (pc' := 795) D_law_30.2.1.2.1 rfl) ?_
        exact z_ret (w := some (vI 0)) I (fun g => gk1 _ _ g bz0) ⟨_, bz0, rfl⟩ D_law_30.2.1.2.2 rfl
    have J796 : ∀ (x3 : Int) (ax3 : inR x3) (h : HP), Z Y (m_law_J796 r1 r2 x3 xs m h) G1 h 796 [(0, .ref b), (1, vR ad r1), (2, vR ad r2), (3, vI x3)] [] := by
      intro x3 ax3 h
      unfold m_law_J796
      refine z_s I (s_aload_n (pc' := 797) 1 rfl D_law_30.2.2.1.1 rfl rfl) ?_
      refine z_s I (s_raload_n (pc' := 798) 0 rfl D_law_30.2.2.1.2 rfl rfl) ?_
      refine z_s I (s_iload_n (pc' := 799) 3 rfl D_law_30.2.2.2.1 rfl rfl) ?_
      refine z_s I (s_iconst (pc' := 800) D_law_30.2.2.2.2 rfl) ?_
      refine z_s I (s_iadd (pc' := 801) D_law_31.1.1.1.1 rfl) ?_
      refine z_sld (pc' := 802) IL hm hxs (inR_w32 _) D_law_31.1.1.1.2 rfl (fun c213 => ?_)
      refine z_s I (s_raload_n (pc' := 803) 0 rfl D_law_31.1.1.2.1 rfl rfl) ?_
      refine z_s I (s_iload_n (pc' := 804) 3 rfl D_law_31.1.1.2.2 rfl rfl) ?_
      refine z_s I (s_iconst (pc' := 805) D_law_31.1.2.1.1 rfl) ?_
      refine z_s I (s_iadd (pc' := 806) D_law_31.1.2.1.2 rfl) ?_
      refine z_sld (pc' := 807) IL hm hxs (inR_w32 _) D_law_31.1.2.2.1 rfl (fun c214 => ?_)
      refine z_s I (s_raload_n (pc' := 808) 0 rfl D_law_31.1.2.2.2 rfl rfl) ?_
      refine z_s I (s_iload_n (pc' := 809) 3 rfl D_law_31.2.1.1.1 rfl rfl) ?_
      refine z_s I (s_iconst (pc' := 810) D_law_31.2.1.1.2 rfl) ?_
      refine z_s I (s_iadd (pc' := 811) D_law_31.2.1.2.1 rfl) ?_
      refine z_sld (pc' := 812) IL hm hxs (inR_w32 _) D_law_31.2.1.2.2 rfl (fun c215 => ?_)
      refine z_s I (s_raload_n (pc' := 813) 0 rfl D_law_31.2.2.1.1 rfl rfl) ?_
      refine z_s I (s_iload_n (pc' := 814) 3 rfl D_law_31.2.2.1.2 rfl rfl) ?_
      refine z_s I (s_iconst (pc' := 815) D_law_31.2.2.2.1 rfl) ?_
      refine z_s I (s_iadd (pc' := 816) D_law_31.2.2.2.2 rfl) ?_
      refine z_sld (pc' := 817) IL hm hxs (inR_w32 _) D_law_32.1.1.1.1 rfl (fun c216 => ?_)
      refine z_s I (s_raload_n (pc' := 818) 0 rfl D_law_32.1.1.1.2 rfl rfl) ?_
      refine z_s I (s_iload_n (pc' := 819) 3 rfl D_law_32.1.1.2.1 rfl rfl) ?_
      refine z_s I (s_iconst (pc' := 820) D_law_32.1.1.2.2 rfl) ?_
      refine z_s I (s_iadd (pc' := 821) D_law_32.1.2.1.1 rfl) ?_
      refine z_sld (pc' := 822) IL hm hxs (inR_w32 _) D_law_32.1.2.1.2 rfl (fun c217 => ?_)
      refine z_b2 (fun r220 h221 q219 => ?_)
      refine z_callV (pc' := 825) I mv_Cb_just ml_law_87 (fun ad => [vI (xs (w32 (x3 + 1))), vI (xs (w32 (x3 + 2))), vI (xs (w32 (x3 + 3))), vI (xs (w32 (x3 + 4))), vI (xs (w32 (x3 + 5)))]) ⟨Nat.le_of_ble_eq_true rfl, Nat.le_of_ble_eq_true rfl⟩ ar1 (fun hh => c_Cb_just hw ar1 (hxr _) (hxr _) (hxr _) (hxr _) (hxr _) hh q219) rfl rfl (Nat.le_of_ble_eq_true rfl) D_law_32.1.2.2.1 rfl (fun f218 => ?_)
      refine z_s I (s_aload_n (pc' := 826) 2 rfl D_law_32.1.2.2.2 rfl rfl) ?_
      refine z_s I (s_raload_n (pc' := 827) 0 rfl D_law_32.2.1.1.1 rfl rfl) ?_
      refine z_s I (s_iload_n (pc' := 828) 3 rfl D_law_32.2.1.1.2 rfl rfl) ?_
      refine z_s I (s_iconst (pc' := 829) D_law_32.2.1.2.1 rfl) ?_
      refine z_s I (s_iadd (pc' := 830) D_law_32.2.1.2.2 rfl) ?_
      refine z_sld (pc' := 831) IL hm hxs (inR_w32 _) D_law_32.2.2.1.1 rfl (fun c222 => ?_)
      refine z_s I (s_raload_n (pc' := 832) 0 rfl D_law_32.2.2.1.2 rfl rfl) ?_
      refine z_s I (s_iload_n (pc' := 833) 3 rfl D_law_32.2.2.2.1 rfl rfl) ?_
      refine z_s I (s_iconst (pc' := 834) D_law_32.2.2.2.2 rfl) ?_
      refine z_s I (s_iadd (pc' := 835) D_law_33.1.1.1.1 rfl) ?_
      refine z_sld (pc' := 836) IL hm hxs (inR_w32 _) D_law_33.1.1.1.2 rfl (fun c223 => ?_)
      refine z_s I (s_raload_n (pc' := 837) 0 rfl D_law_33.1.1.2.1 rfl rfl) ?_
      refine z_s I (s_iload_n (pc' := 838) 3 rfl D_law_33.1.1.2.2 rfl rfl) ?_
      refine z_s I (s_iconst (pc' := 839) D_law_33.1.2.1.1 rfl) ?_
      refine z_s I (s_iadd (pc' := 840) D_law_33.1.2.1.2 rfl) ?_
      refine z_sld (pc' := 841) IL hm hxs (inR_w32 _) D_law_33.1.2.2.1 rfl (fun c224 => ?_)
      refine z_s I (s_raload_n (pc' := 842) 0 rfl D_law_33.1.2.2.2 rfl rfl) ?_
      refine z_s I (s_iload_n (pc' := 843) 3 rfl D_law_33.2.1.1.1 rfl rfl) ?_
      refine z_s I (s_iconst (pc' := 844) D_law_33.2.1.1.2 rfl) ?_
      refine z_s I (s_iadd (pc' := 845) D_law_33.2.1.2.1 rfl) ?_
      refine z_sld (pc' := 846) IL hm hxs (inR_w32 _) D_law_33.2.1.2.2 rfl (fun c225 => ?_)
      refine z_s I (s_raload_n (pc' := 847) 0 rfl D_law_33.2.2.1.1 rfl rfl) ?_
      refine z_s I (s_iload_n (pc' := 848) 3 rfl D_law_33.2.2.1.2 rfl rfl) ?_
      refine z_s I (s_iconst (pc' := 849) D_law_33.2.2.2.1 rfl) ?_
      refine z_s I (s_iadd (pc' := 850) D_law_33.2.2.2.2 rfl) ?_
      refine z_sld (pc' := 851) IL hm hxs (inR_w32 _) D_law_34.1.1.1.1 rfl (fun c226 => ?_)
      refine z_b2 (fun r229 h230 q228 => ?_)
      refine z_callV (pc' := 854) I mv_Md_just ml_law_91 (fun ad => [vI (xs (w32 (x3 + 1))), vI (xs (w32 (x3 + 2))), vI (xs (w32 (x3 + 3))), vI (xs (w32 (x3 + 4))), vI (xs (w32 (x3 + 5)))]) ⟨Nat.le_of_ble_eq_true rfl, Nat.le_of_ble_eq_true rfl⟩ ar2 (fun hh => c_Md_just hw ar2 (hxr _) (hxr _) (hxr _) (hxr _) (hxr _) hh q228) rfl rfl (Nat.le_of_ble_eq_true rfl) D_law_34.1.1.1.2 rfl (fun f227 => ?_)
      refine z_s I (s_lcmp (pc' := 855) f218 f227 D_law_34.1.1.2.1 rfl) ?_
      refine z_if_eq (tgt := 1790) (pc' := 858) I (inR_lCmp _ _) D_law_34.1.1.2.2 rfl rfl (fun c231 => ?_) (fun c231 => ?_)
      · refine z_s I (s_iinc (pc' := 1793) (lv' := [(3, vI (w32 (x3 + 6))), (0, .ref b), (1, vR ad r1), (2, vR ad r2)]) (n := 3) rfl D_law_81.2.2.2.1 (by decide) rfl rfl) ?_
        refine z_s I (s_goto (tgt := 18) D_law_81.2.2.2.2 rfl) ?_
        refine z_s I (s_lv (lv' := [(0, .ref b), (1, vR ad r1), (2, vR ad r2), (3, vI (w32 (x3 + 6)))]) [1, 2, 3, 0] rfl) ?_
        exact z_end (fun g => hin1_1 _ g (inR_w32 _))
      · refine z_s I (s_iconst (pc' := 859) D_law_34.1.2.1.1 rfl) ?_
        exact z_ret (w := some (vI 0)) I (fun g => gk1 _ _ g bz0) ⟨_, bz0, rfl⟩ D_law_34.1.2.1.2 rfl
    have J860 : ∀ (x3 : Int) (ax3 : inR x3) (h : HP), Z Y (m_law_J860 r1 r2 x3 xs m h) G1 h 860 [(0, .ref b), (1, vR ad r1), (2, vR ad r2), (3, vI x3)] [] := by
      intro x3 ax3 h
      unfold m_law_J860
      refine z_s I (s_aload_n (pc' := 861) 1 rfl D_law_34.1.2.2.1 rfl rfl) ?_
      refine z_s I (s_raload_n (pc' := 862) 0 rfl D_law_34.1.2.2.2 rfl rfl) ?_
      refine z_s I (s_iload_n (pc' := 863) 3 rfl D_law_34.2.1.1.1 rfl rfl) ?_
      refine z_s I (s_iconst (pc' := 864) D_law_34.2.1.1.2 rfl) ?_
      refine z_s I (s_iadd (pc' := 865) D_law_34.2.1.2.1 rfl) ?_
      refine z_sld (pc' := 866) IL hm hxs (inR_w32 _) D_law_34.2.1.2.2 rfl (fun c232 => ?_)
      refine z_s I (s_raload_n (pc' := 867) 0 rfl D_law_34.2.2.1.1 rfl rfl) ?_
      refine z_s I (s_iload_n (pc' := 868) 3 rfl D_law_34.2.2.1.2 rfl rfl) ?_
      refine z_s I (s_iconst (pc' := 869) D_law_34.2.2.2.1 rfl) ?_
      refine z_s I (s_iadd (pc' := 870) D_law_34.2.2.2.2 rfl) ?_
      refine z_sld (pc' := 871) IL hm hxs (inR_w32 _) D_law_35.1.1.1.1 rfl (fun c233 => ?_)
      refine z_b2 (fun r236 h237 q235 => ?_)
      refine z_callV (pc' := 874) I mv_Cb_source ml_law_92 (fun ad => [vI (xs (w32 (x3 + 1))), vI (xs (w32 (x3 + 2)))]) ⟨Nat.le_of_ble_eq_true rfl, Nat.le_of_ble_eq_true rfl⟩ ar1 (fun hh => c_Cb_source hw ar1 (hxr _) (hxr _) hh q235) rfl rfl (Nat.le_of_ble_eq_true rfl) D_law_35.1.1.1.2 rfl (fun f234 => ?_)
      refine z_s I (s_aload_n (pc' := 875) 2 rfl D_law_35.1.1.2.1 rfl rfl) ?_
      refine z_s I (s_raload_n (pc' := 876) 0 rfl D_law_35.1.1.2.2 rfl rfl) ?_
      refine z_s I (s_iload_n (pc' := 877) 3 rfl D_law_35.1.2.1.1 rfl rfl) ?_
      refine z_s I (s_iconst (pc' := 878) D_law_35.1.2.1.2 rfl) ?_
      refine z_s I (s_iadd (pc' := 879) D_law_35.1.2.2.1 rfl) ?_
      refine z_sld (pc' := 880) IL hm hxs (inR_w32 _) D_law_35.1.2.2.2 rfl (fun c238 => ?_)
      refine z_s I (s_raload_n (pc' := 881) 0 rfl D_law_35.2.1.1.1 rfl rfl) ?_
      refine z_s I (s_iload_n (pc' := 882) 3 rfl D_law_35.2.1.1.2 rfl rfl) ?_
      refine z_s I (s_iconst (pc' := 883) D_law_35.2.1.2.1 rfl) ?_
      refine z_s I (s_iadd (pc' := 884) D_law_35.2.1.2.2 rfl) ?_
      refine z_sld (pc' := 885) IL hm hxs (inR_w32 _) D_law_35.2.2.1.1 rfl (fun c239 => ?_)
      refine z_b2 (fun r242 h243 q241 => ?_)
      refine z_callV (pc' := 888) I mv_Md_source ml_law_95 (fun ad => [vI (xs (w32 (x3 + 1))), vI (xs (w32 (x3 + 2)))]) ⟨Nat.le_of_ble_eq_true rfl, Nat.le_of_ble_eq_true rfl⟩ ar2 (fun hh => c_Md_source hw ar2 (hxr _) (hxr _) hh q241) rfl rfl (Nat.le_of_ble_eq_true rfl) D_law_35.2.2.1.2 rfl (fun f240 => ?_)
      refine z_icmp_eq (tgt := 1790) (pc' := 891) I f234 f240 D_law_35.2.2.2.1 rfl rfl (fun c244 => ?_) (fun c244 => ?_)
      · refine z_s I (s_iinc (pc' := 1793) (lv' := [(3, vI (w32 (x3 + 6))), (0, .ref b), (1, vR ad r1), (2, vR ad r2)]) (n := 3) rfl D_law_81.2.2.2.1 (by decide) rfl rfl) ?_
        refine z_s I (s_goto (tgt := 18) D_law_81.2.2.2.2 rfl) ?_
        refine z_s I (s_lv (lv' := [(0, .ref b), (1, vR ad r1), (2, vR ad r2), (3, vI (w32 (x3 + 6)))]) [1, 2, 3, 0] rfl) ?_
        exact z_end (fun g => hin1_1 _ g (inR_w32 _))
      · refine z_s I (s_iconst (pc' := 892) D_law_35.2.2.2.2 rfl) ?_
        exact z_ret (w := some (vI 0)) I (fun g => gk1 _ _ g bz0) ⟨_, bz0, rfl⟩ D_law_36.1.1.1.1 rfl
    have J893 : ∀ (x3 : Int) (ax3 : inR x3) (h : HP), Z Y (m_law_J893 r1 r2 x3 xs m h) G1 h 893 [(0, .ref b), (1, vR ad r1), (2, vR ad r2), (3, vI x3)] [] := by
      intro x3 ax3 h
      unfold m_law_J893
      refine z_s I (s_aload_n (pc' := 894) 1 rfl D_law_36.1.1.1.2 rfl rfl) ?_
      refine z_s I (s_raload_n (pc' := 895) 0 rfl D_law_36.1.1.2.1 rfl rfl) ?_
      refine z_s I (s_iload_n (pc' := 896) 3 rfl D_law_36.1.1.2.2 rfl rfl) ?_
      refine z_s I (s_iconst (pc' := 897) D_law_36.1.2.1.1 rfl) ?_
      refine z_s I (s_iadd (pc' := 898) D_law_36.1.2.1.2 rfl) ?_
      refine z_sld (pc' := 899) IL hm hxs (inR_w32 _) D_law_36.1.2.2.1 rfl (fun c245 => ?_)
      refine z_s I (s_raload_n (pc' := 900) 0 rfl D_law_36.1.2.2.2 rfl rfl) ?_
      refine z_s I (s_iload_n (pc' := 901) 3 rfl D_law_36.2.1.1.1 rfl rfl) ?_
      refine z_s I (s_iconst (pc' := 902) D_law_36.2.1.1.2 rfl) ?_
      refine z_s I (s_iadd (pc' := 903) D_law_36.2.1.2.1 rfl) ?_
      refine z_sld (pc' := 904) IL hm hxs (inR_w32 _) D_law_36.2.1.2.2 rfl (fun c246 => ?_)
      refine z_s I (s_raload_n (pc' := 905) 0 rfl D_law_36.2.2.1.1 rfl rfl) ?_
      refine z_s I (s_iload_n (pc' := 906) 3 rfl D_law_36.2.2.1.2 rfl rfl) ?_
      refine z_s I (s_iconst (pc' := 907) D_law_36.2.2.2.1 rfl) ?_
      refine z_s I (s_iadd (pc' := 908) D_law_36.2.2.2.2 rfl) ?_
      refine z_sld (pc' := 909) IL hm hxs (inR_w32 _) D_law_37.1.1.1.1 rfl (fun c247 => ?_)
      refine z_s I (s_raload_n (pc' := 910) 0 rfl D_law_37.1.1.1.2 rfl rfl) ?_
      refine z_s I (s_iload_n (pc' := 911) 3 rfl D_law_37.1.1.2.1 rfl rfl) ?_
      refine z_s I (s_iconst (pc' := 912) D_law_37.1.1.2.2 rfl) ?_
      refine z_s I (s_iadd (pc' := 913) D_law_37.1.2.1.1 rfl) ?_
      refine z_sld (pc' := 914) IL hm hxs (inR_w32 _) D_law_37.1.2.1.2 rfl (fun c248 => ?_)
      refine z_b2 (fun r251 h252 q250 => ?_)
      refine z_callV (pc' := 917) I mv_Cb_without ml_law_96 (fun ad => [vI (xs (w32 (x3 + 1))), vI (xs (w32 (x3 + 2))), vI (xs (w32 (x3 + 3))), vI (xs (w32 (x3 + 4)))]) ⟨Nat.le_of_ble_eq_true rfl, Nat.le_of_ble_eq_true rfl⟩ ar1 (fun hh => c_Cb_without hw ar1 (hxr _) (hxr _) (hxr _) (hxr _) hh q250) rfl rfl (Nat.le_of_ble_eq_true rfl) D_law_37.1.2.2.1 rfl (fun f249 => ?_)
      refine z_s I (s_aload_n (pc' := 918) 2 rfl D_law_37.1.2.2.2 rfl rfl) ?_
      refine z_s I (s_raload_n (pc' := 919) 0 rfl D_law_37.2.1.1.1 rfl rfl) ?_
      refine z_s I (s_iload_n (pc' := 920) 3 rfl D_law_37.2.1.1.2 rfl rfl) ?_
      refine z_s I (s_iconst (pc' := 921) D_law_37.2.1.2.1 rfl) ?_
      refine z_s I (s_iadd (pc' := 922) D_law_37.2.1.2.2 rfl) ?_
      refine z_sld (pc' := 923) IL hm hxs (inR_w32 _) D_law_37.2.2.1.1 rfl (fun c253 => ?_)
      refine z_s I (s_raload_n (pc' := 924) 0 rfl D_law_37.2.2.1.2 rfl rfl) ?_
      refine z_s I (s_iload_n (pc' := 925) 3 rfl D_law_37.2.2.2.1 rfl rfl) ?_
      refine z_s I (s_iconst (pc' := 926) D_law_37.2.2.2.2 rfl) ?_
      refine z_s I (s_iadd (pc' := 927) D_law_38.1.1.1.1 rfl) ?_
      refine z_sld (pc' := 928) IL hm hxs (inR_w32 _) D_law_38.1.1.1.2 rfl (fun c254 => ?_)
      refine z_s I (s_raload_n (pc' := 929) 0 rfl D_law_38.1.1.2.1 rfl rfl) ?_
      refine z_s I (s_iload_n (pc' := 930) 3 rfl D_law_38.1.1.2.2 rfl rfl) ?_
      refine z_s I (s_iconst (pc' := 931) D_law_38.1.2.1.1 rfl) ?_
      refine z_s I (s_iadd (pc' := 932) D_law_38.1.2.1.2 rfl) ?_
      refine z_sld (pc' := 933) IL hm hxs (inR_w32 _) D_law_38.1.2.2.1 rfl (fun c255 => ?_)
      refine z_s I (s_raload_n (pc' := 934) 0 rfl D_law_38.1.2.2.2 rfl rfl) ?_
      refine z_s I (s_iload_n (pc' := 935) 3 rfl D_law_38.2.1.1.1 rfl rfl) ?_
      refine z_s I (s_iconst (pc' := 936) D_law_38.2.1.1.2 rfl) ?_
      refine z_s I (s_iadd (pc' := 937) D_law_38.2.1.2.1 rfl) ?_
      refine z_sld (pc' := 938) IL hm hxs (inR_w32 _) D_law_38.2.1.2.2 rfl (fun c256 => ?_)
      refine z_b2 (fun r259 h260 q258 => ?_)
      refine z_callV (pc' := 941) I mv_Md_without ml_law_99 (fun ad => [vI (xs (w32 (x3 + 1))), vI (xs (w32 (x3 + 2))), vI (xs (w32 (x3 + 3))), vI (xs (w32 (x3 + 4)))]) ⟨Nat.le_of_ble_eq_true rfl, Nat.le_of_ble_eq_true rfl⟩ ar2 (fun hh => c_Md_without hw ar2 (hxr _) (hxr _) (hxr _) (hxr _) hh q258) rfl rfl (Nat.le_of_ble_eq_true rfl) D_law_38.2.2.1.1 rfl (fun f257 => ?_)
      refine z_s I (s_lcmp (pc' := 942) f249 f257 D_law_38.2.2.1.2 rfl) ?_
      refine z_if_eq (tgt := 1790) (pc' := 945) I (inR_lCmp _ _) D_law_38.2.2.2.1 rfl rfl (fun c261 => ?_) (fun c261 => ?_)
      · refine z_s I (s_iinc (pc' := 1793) (lv' := [(3, vI (w32 (x3 + 6))), (0, .ref b), (1, vR ad r1), (2, vR ad r2)]) (n := 3) rfl D_law_81.2.2.2.1 (by decide) rfl rfl) ?_
        refine z_s I (s_goto (tgt := 18) D_law_81.2.2.2.2 rfl) ?_
        refine z_s I (s_lv (lv' := [(0, .ref b), (1, vR ad r1), (2, vR ad r2), (3, vI (w32 (x3 + 6)))]) [1, 2, 3, 0] rfl) ?_
        exact z_end (fun g => hin1_1 _ g (inR_w32 _))
      · refine z_s I (s_iconst (pc' := 946) D_law_38.2.2.2.2 rfl) ?_
        exact z_ret (w := some (vI 0)) I (fun g => gk1 _ _ g bz0) ⟨_, bz0, rfl⟩ D_law_39.1.1.1.1 rfl
    have J947 : ∀ (x3 : Int) (ax3 : inR x3) (h : HP), Z Y (m_law_J947 r1 r2 x3 xs m h) G1 h 947 [(0, .ref b), (1, vR ad r1), (2, vR ad r2), (3, vI x3)] [] := by
      intro x3 ax3 h
      unfold m_law_J947
      refine z_s I (s_aload_n (pc' := 948) 1 rfl D_law_39.1.1.1.2 rfl rfl) ?_
      refine z_s I (s_raload_n (pc' := 949) 0 rfl D_law_39.1.1.2.1 rfl rfl) ?_
      refine z_s I (s_iload_n (pc' := 950) 3 rfl D_law_39.1.1.2.2 rfl rfl) ?_
      refine z_s I (s_iconst (pc' := 951) D_law_39.1.2.1.1 rfl) ?_
      refine z_s I (s_iadd (pc' := 952) D_law_39.1.2.1.2 rfl) ?_
      refine z_sld (pc' := 953) IL hm hxs (inR_w32 _) D_law_39.1.2.2.1 rfl (fun c262 => ?_)
      refine z_s I (s_raload_n (pc' := 954) 0 rfl D_law_39.1.2.2.2 rfl rfl) ?_
      refine z_s I (s_iload_n (pc' := 955) 3 rfl D_law_39.2.1.1.1 rfl rfl) ?_
      refine z_s I (s_iconst (pc' := 956) D_law_39.2.1.1.2 rfl) ?_
      refine z_s I (s_iadd (pc' := 957) D_law_39.2.1.2.1 rfl) ?_
      refine z_sld (pc' := 958) IL hm hxs (inR_w32 _) D_law_39.2.1.2.2 rfl (fun c263 => ?_)
      refine z_b2 (fun r266 h267 q265 => ?_)
      refine z_callV (pc' := 961) I mv_Cb_key ml_law_100 (fun ad => [vI (xs (w32 (x3 + 1))), vI (xs (w32 (x3 + 2)))]) ⟨Nat.le_of_ble_eq_true rfl, Nat.le_of_ble_eq_true rfl⟩ ar1 (fun hh => c_Cb_key hw ar1 (hxr _) (hxr _) hh q265) rfl rfl (Nat.le_of_ble_eq_true rfl) D_law_39.2.2.1.1 rfl (fun f264 => ?_)
      refine z_s I (s_aload_n (pc' := 962) 2 rfl D_law_39.2.2.1.2 rfl rfl) ?_
      refine z_s I (s_raload_n (pc' := 963) 0 rfl D_law_39.2.2.2.1 rfl rfl) ?_
      refine z_s I (s_iload_n (pc' := 964) 3 rfl D_law_39.2.2.2.2 rfl rfl) ?_
      refine z_s I (s_iconst (pc' := 965) D_law_40.1.1.1.1 rfl) ?_
      refine z_s I (s_iadd (pc' := 966) D_law_40.1.1.1.2 rfl) ?_
      refine z_sld (pc' := 967) IL hm hxs (inR_w32 _) D_law_40.1.1.2.1 rfl (fun c268 => ?_)
      refine z_s I (s_raload_n (pc' := 968) 0 rfl D_law_40.1.1.2.2 rfl rfl) ?_
      refine z_s I (s_iload_n (pc' := 969) 3 rfl D_law_40.1.2.1.1 rfl rfl) ?_
      refine z_s I (s_iconst (pc' := 970) D_law_40.1.2.1.2 rfl) ?_
      refine z_s I (s_iadd (pc' := 971) D_law_40.1.2.2.1 rfl) ?_
      refine z_sld (pc' := 972) IL hm hxs (inR_w32 _) D_law_40.1.2.2.2 rfl (fun c269 => ?_)
      refine z_b2 (fun r272 h273 q271 => ?_)
      refine z_callV (pc' := 975) I mv_Md_key ml_law_103 (fun ad => [vI (xs (w32 (x3 + 1))), vI (xs (w32 (x3 + 2)))]) ⟨Nat.le_of_ble_eq_true rfl, Nat.le_of_ble_eq_true rfl⟩ ar2 (fun hh => c_Md_key hw ar2 (hxr _) (hxr _) hh q271) rfl rfl (Nat.le_of_ble_eq_true rfl) D_law_40.2.1.1.1 rfl (fun f270 => ?_)
      refine z_icmp_eq (tgt := 1790) (pc' := 978) I f264 f270 D_law_40.2.1.1.2 rfl rfl (fun c274 => ?_) (fun c274 => ?_)
      · refine z_s I (s_iinc (pc' := 1793) (lv' := [(3, vI (w32 (x3 + 6))), (0, .ref b), (1, vR ad r1), (2, vR ad r2)]) (n := 3) rfl D_law_81.2.2.2.1 (by decide) rfl rfl) ?_
        refine z_s I (s_goto (tgt := 18) D_law_81.2.2.2.2 rfl) ?_
        refine z_s I (s_lv (lv' := [(0, .ref b), (1, vR ad r1), (2, vR ad r2), (3, vI (w32 (x3 + 6)))]) [1, 2, 3, 0] rfl) ?_
        exact z_end (fun g => hin1_1 _ g (inR_w32 _))
      · refine z_s I (s_iconst (pc' := 979) D_law_40.2.1.2.1 rfl) ?_
        exact z_ret (w := some (vI 0)) I (fun g => gk1 _ _ g bz0) ⟨_, bz0, rfl⟩ D_law_40.2.1.2.2 rfl
    have J980 : ∀ (x3 : Int) (ax3 : inR x3) (h : HP), Z Y (m_law_J980 r1 r2 x3 xs m h) G1 h 980 [(0, .ref b), (1, vR ad r1), (2, vR ad r2), (3, vI x3)] [] := by
      intro x3 ax3 h
      unfold m_law_J980
      refine z_s I (s_aload_n (pc' := 981) 1 rfl D_law_40.2.2.1.1 rfl rfl) ?_
      refine z_s I (s_raload_n (pc' := 982) 0 rfl D_law_40.2.2.1.2 rfl rfl) ?_
      refine z_s I (s_iload_n (pc' := 983) 3 rfl D_law_40.2.2.2.1 rfl rfl) ?_
      refine z_s I (s_iconst (pc' := 984) D_law_40.2.2.2.2 rfl) ?_
      refine z_s I (s_iadd (pc' := 985) D_law_41.1.1.1.1 rfl) ?_
      refine z_sld (pc' := 986) IL hm hxs (inR_w32 _) D_law_41.1.1.1.2 rfl (fun c275 => ?_)
      refine z_s I (s_raload_n (pc' := 987) 0 rfl D_law_41.1.1.2.1 rfl rfl) ?_
      refine z_s I (s_iload_n (pc' := 988) 3 rfl D_law_41.1.1.2.2 rfl rfl) ?_
      refine z_s I (s_iconst (pc' := 989) D_law_41.1.2.1.1 rfl) ?_
      refine z_s I (s_iadd (pc' := 990) D_law_41.1.2.1.2 rfl) ?_
      refine z_sld (pc' := 991) IL hm hxs (inR_w32 _) D_law_41.1.2.2.1 rfl (fun c276 => ?_)
      refine z_b2 (fun r279 h280 q278 => ?_)
      refine z_callV (pc' := 994) I mv_Cb_pairs ml_law_104 (fun ad => [vI (xs (w32 (x3 + 1))), vI (xs (w32 (x3 + 2)))]) ⟨Nat.le_of_ble_eq_true rfl, Nat.le_of_ble_eq_true rfl⟩ ar1 (fun hh => c_Cb_pairs hw ar1 (hxr _) (hxr _) hh q278) rfl rfl (Nat.le_of_ble_eq_true rfl) D_law_41.1.2.2.2 rfl (fun f277 => ?_)
      refine z_s I (s_aload_n (pc' := 995) 2 rfl D_law_41.2.1.1.1 rfl rfl) ?_
      refine z_s I (s_raload_n (pc' := 996) 0 rfl D_law_41.2.1.1.2 rfl rfl) ?_
      refine z_s I (s_iload_n (pc' := 997) 3 rfl D_law_41.2.1.2.1 rfl rfl) ?_
      refine z_s I (s_iconst (pc' := 998) D_law_41.2.1.2.2 rfl) ?_
      refine z_s I (s_iadd (pc' := 999) D_law_41.2.2.1.1 rfl) ?_
      refine z_sld (pc' := 1000) IL hm hxs (inR_w32 _) D_law_41.2.2.1.2 rfl (fun c281 => ?_)
      refine z_s I (s_raload_n (pc' := 1001) 0 rfl D_law_41.2.2.2.1 rfl rfl) ?_
      refine z_s I (s_iload_n (pc' := 1002) 3 rfl D_law_41.2.2.2.2 rfl rfl) ?_
      refine z_s I (s_iconst (pc' := 1003) D_law_42.1.1.1.1 rfl) ?_
      refine z_s I (s_iadd (pc' := 1004) D_law_42.1.1.1.2 rfl) ?_
      refine z_sld (pc' := 1005) IL hm hxs (inR_w32 _) D_law_42.1.1.2.1 rfl (fun c282 => ?_)
      refine z_b2 (fun r285 h286 q284 => ?_)
      refine z_callV (pc' := 1008) I mv_Md_pairs ml_law_107 (fun ad => [vI (xs (w32 (x3 + 1))), vI (xs (w32 (x3 + 2)))]) ⟨Nat.le_of_ble_eq_true rfl, Nat.le_of_ble_eq_true rfl⟩ ar2 (fun hh => c_Md_pairs hw ar2 (hxr _) (hxr _) hh q284) rfl rfl (Nat.le_of_ble_eq_true rfl) D_law_42.1.1.2.2 rfl (fun f283 => ?_)
      refine z_icmp_eq (tgt := 1790) (pc' := 1011) I f277 f283 D_law_42.1.2.1.1 rfl rfl (fun c287 => ?_) (fun c287 => ?_)
      · refine z_s I (s_iinc (pc' := 1793) (lv' := [(3, vI (w32 (x3 + 6))), (0, .ref b), (1, vR ad r1), (2, vR ad r2)]) (n := 3) rfl D_law_81.2.2.2.1 (by decide) rfl rfl) ?_
        refine z_s I (s_goto (tgt := 18) D_law_81.2.2.2.2 rfl) ?_
        refine z_s I (s_lv (lv' := [(0, .ref b), (1, vR ad r1), (2, vR ad r2), (3, vI (w32 (x3 + 6)))]) [1, 2, 3, 0] rfl) ?_
        exact z_end (fun g => hin1_1 _ g (inR_w32 _))
      · refine z_s I (s_iconst (pc' := 1012) D_law_42.1.2.1.2 rfl) ?_
        exact z_ret (w := some (vI 0)) I (fun g => gk1 _ _ g bz0) ⟨_, bz0, rfl⟩ D_law_42.1.2.2.1 rfl
    have J1013 : ∀ (x3 : Int) (ax3 : inR x3) (h : HP), Z Y (m_law_J1013 r1 r2 x3 xs m h) G1 h 1013 [(0, .ref b), (1, vR ad r1), (2, vR ad r2), (3, vI x3)] [] := by
      intro x3 ax3 h
      unfold m_law_J1013
      refine z_s I (s_aload_n (pc' := 1014) 1 rfl D_law_42.1.2.2.2 rfl rfl) ?_
      refine z_s I (s_raload_n (pc' := 1015) 0 rfl D_law_42.2.1.1.1 rfl rfl) ?_
      refine z_s I (s_iload_n (pc' := 1016) 3 rfl D_law_42.2.1.1.2 rfl rfl) ?_
      refine z_s I (s_iconst (pc' := 1017) D_law_42.2.1.2.1 rfl) ?_
      refine z_s I (s_iadd (pc' := 1018) D_law_42.2.1.2.2 rfl) ?_
      refine z_sld (pc' := 1019) IL hm hxs (inR_w32 _) D_law_42.2.2.1.1 rfl (fun c288 => ?_)
      refine z_s I (s_raload_n (pc' := 1020) 0 rfl D_law_42.2.2.1.2 rfl rfl) ?_
      refine z_s I (s_iload_n (pc' := 1021) 3 rfl D_law_42.2.2.2.1 rfl rfl) ?_
      refine z_s I (s_iconst (pc' := 1022) D_law_42.2.2.2.2 rfl) ?_
      refine z_s I (s_iadd (pc' := 1023) D_law_43.1.1.1.1 rfl) ?_
      refine z_sld (pc' := 1024) IL hm hxs (inR_w32 _) D_law_43.1.1.1.2 rfl (fun c289 => ?_)
      refine z_b2 (fun r292 h293 q291 => ?_)
      refine z_callV (pc' := 1027) I mv_Cb_pair ml_law_108 (fun ad => [vI (xs (w32 (x3 + 1))), vI (xs (w32 (x3 + 2)))]) ⟨Nat.le_of_ble_eq_true rfl, Nat.le_of_ble_eq_true rfl⟩ ar1 (fun hh => c_Cb_pair hw ar1 (hxr _) (hxr _) hh q291) rfl rfl (Nat.le_of_ble_eq_true rfl) D_law_43.1.1.2.1 rfl (fun f290 => ?_)
      refine z_s I (s_aload_n (pc' := 1028) 2 rfl D_law_43.1.1.2.2 rfl rfl) ?_
      refine z_s I (s_raload_n (pc' := 1029) 0 rfl D_law_43.1.2.1.1 rfl rfl) ?_
      refine z_s I (s_iload_n (pc' := 1030) 3 rfl D_law_43.1.2.1.2 rfl rfl) ?_
      refine z_s I (s_iconst (pc' := 1031) D_law_43.1.2.2.1 rfl) ?_
      refine z_s I (s_iadd (pc' := 1032) D_law_43.1.2.2.2 rfl) ?_
      refine z_sld (pc' := 1033) IL hm hxs (inR_w32 _) D_law_43.2.1.1.1 rfl (fun c294 => ?_)
      refine z_s I (s_raload_n (pc' := 1034) 0 rfl D_law_43.2.1.1.2 rfl rfl) ?_
      refine z_s I (s_iload_n (pc' := 1035) 3 rfl D_law_43.2.1.2.1 rfl rfl) ?_
      refine z_s I (s_iconst (pc' := 1036) D_law_43.2.1.2.2 rfl) ?_
      refine z_s I (s_iadd (pc' := 1037) D_law_43.2.2.1.1 rfl) ?_
      refine z_sld (pc' := 1038) IL hm hxs (inR_w32 _) D_law_43.2.2.1.2 rfl (fun c295 => ?_)
      refine z_b2 (fun r298 h299 q297 => ?_)
      refine z_callV (pc' := 1041) I mv_Md_pair ml_law_111 (fun ad => [vI (xs (w32 (x3 + 1))), vI (xs (w32 (x3 + 2)))]) ⟨Nat.le_of_ble_eq_true rfl, Nat.le_of_ble_eq_true rfl⟩ ar2 (fun hh => c_Md_pair hw ar2 (hxr _) (hxr _) hh q297) rfl rfl (Nat.le_of_ble_eq_true rfl) D_law_43.2.2.2.1 rfl (fun f296 => ?_)
      refine z_icmp_eq (tgt := 1790) (pc' := 1044) I f290 f296 D_law_43.2.2.2.2 rfl rfl (fun c300 => ?_) (fun c300 => ?_)
      · refine z_s I (s_iinc (pc' := 1793) (lv' := [(3, vI (w32 (x3 + 6))), (0, .ref b), (1, vR ad r1), (2, vR ad r2)]) (n := 3) rfl D_law_81.2.2.2.1 (by decide) rfl rfl) ?_
        refine z_s I (s_goto (tgt := 18) D_law_81.2.2.2.2 rfl) ?_
        refine z_s I (s_lv (lv' := [(0, .ref b), (1, vR ad r1), (2, vR ad r2), (3, vI (w32 (x3 + 6)))]) [1, 2, 3, 0] rfl) ?_
        exact z_end (fun g => hin1_1 _ g (inR_w32 _))
      · refine z_s I (s_iconst (pc' := 1045) D_law_44.1.1.1.1 rfl) ?_
        exact z_ret (w := some (vI 0)) I (fun g => gk1 _ _ g bz0) ⟨_, bz0, rfl⟩ D_law_44.1.1.1.2 rfl
    have J1046 : ∀ (x3 : Int) (ax3 : inR x3) (h : HP), Z Y (m_law_J1046 r1 r2 x3 xs m h) G1 h 1046 [(0, .ref b), (1, vR ad r1), (2, vR ad r2), (3, vI x3)] [] := by
      intro x3 ax3 h
      unfold m_law_J1046
      refine z_s I (s_aload_n (pc' := 1047) 1 rfl D_law_44.1.1.2.1 rfl rfl) ?_
      refine z_s I (s_raload_n (pc' := 1048) 0 rfl D_law_44.1.1.2.2 rfl rfl) ?_
      refine z_s I (s_iload_n (pc' := 1049) 3 rfl D_law_44.1.2.1.1 rfl rfl) ?_
      refine z_s I (s_iconst (pc' := 1050) D_law_44.1.2.1.2 rfl) ?_
      refine z_s I (s_iadd (pc' := 1051) D_law_44.1.2.2.1 rfl) ?_
      refine z_sld (pc' := 1052) IL hm hxs (inR_w32 _) D_law_44.1.2.2.2 rfl (fun c301 => ?_)
      refine z_s I (s_raload_n (pc' := 1053) 0 rfl D_law_44.2.1.1.1 rfl rfl) ?_
      refine z_s I (s_iload_n (pc' := 1054) 3 rfl D_law_44.2.1.1.2 rfl rfl) ?_
      refine z_s I (s_iconst (pc' := 1055) D_law_44.2.1.2.1 rfl) ?_
      refine z_s I (s_iadd (pc' := 1056) D_law_44.2.1.2.2 rfl) ?_
      refine z_sld (pc' := 1057) IL hm hxs (inR_w32 _) D_law_44.2.2.1.1 rfl (fun c302 => ?_)
      refine z_b2 (fun r305 h306 q304 => ?_)
      refine z_callV (pc' := 1060) I mv_Cb_pairOdds ml_law_112 (fun ad => [vI (xs (w32 (x3 + 1))), vI (xs (w32 (x3 + 2)))]) ⟨Nat.le_of_ble_eq_true rfl, Nat.le_of_ble_eq_true rfl⟩ ar1 (fun hh => c_Cb_pairOdds hw ar1 (hxr _) (hxr _) hh q304) rfl rfl (Nat.le_of_ble_eq_true rfl) D_law_44.2.2.1.2 rfl (fun f303 => ?_)
      refine z_s I (s_aload_n (pc' := 1061) 2 rfl D_law_44.2.2.2.1 rfl rfl) ?_
      refine z_s I (s_raload_n (pc' := 1062) 0 rfl D_law_44.2.2.2.2 rfl rfl) ?_
      refine z_s I (s_iload_n (pc' := 1063) 3 rfl D_law_45.1.1.1.1 rfl rfl) ?_
      refine z_s I (s_iconst (pc' := 1064) D_law_45.1.1.1.2 rfl) ?_
      refine z_s I (s_iadd (pc' := 1065) D_law_45.1.1.2.1 rfl) ?_
      refine z_sld (pc' := 1066) IL hm hxs (inR_w32 _) D_law_45.1.1.2.2 rfl (fun c307 => ?_)
      refine z_s I (s_raload_n (pc' := 1067) 0 rfl D_law_45.1.2.1.1 rfl rfl) ?_
      refine z_s I (s_iload_n (pc' := 1068) 3 rfl D_law_45.1.2.1.2 rfl rfl) ?_
      refine z_s I (s_iconst (pc' := 1069) D_law_45.1.2.2.1 rfl) ?_
      refine z_s I (s_iadd (pc' := 1070) D_law_45.1.2.2.2 rfl) ?_
      refine z_sld (pc' := 1071) IL hm hxs (inR_w32 _) D_law_45.2.1.1.1 rfl (fun c308 => ?_)
      refine z_b2 (fun r311 h312 q310 => ?_)
      refine z_callV (pc' := 1074) I mv_Md_pairOdds ml_law_116 (fun ad => [vI (xs (w32 (x3 + 1))), vI (xs (w32 (x3 + 2)))]) ⟨Nat.le_of_ble_eq_true rfl, Nat.le_of_ble_eq_true rfl⟩ ar2 (fun hh => c_Md_pairOdds hw ar2 (hxr _) (hxr _) hh q310) rfl rfl (Nat.le_of_ble_eq_true rfl) D_law_45.2.1.1.2 rfl (fun f309 => ?_)
      refine z_s I (s_lcmp (pc' := 1075) f303 f309 D_law_45.2.1.2.1 rfl) ?_
      refine z_if_eq (tgt := 1790) (pc' := 1078) I (inR_lCmp _ _) D_law_45.2.1.2.2 rfl rfl (fun c313 => ?_) (fun c313 => ?_)
      · refine z_s I (s_iinc (pc' := 1793) (lv' := [(3, vI (w32 (x3 + 6))), (0, .ref b), (1, vR ad r1), (2, vR ad r2)]) (n := 3) rfl D_law_81.2.2.2.1 (by decide) rfl rfl) ?_
        refine z_s I (s_goto (tgt := 18) D_law_81.2.2.2.2 rfl) ?_
        refine z_s I (s_lv (lv' := [(0, .ref b), (1, vR ad r1), (2, vR ad r2), (3, vI (w32 (x3 + 6)))]) [1, 2, 3, 0] rfl) ?_
        exact z_end (fun g => hin1_1 _ g (inR_w32 _))
      · refine z_s I (s_iconst (pc' := 1079) D_law_45.2.2.1.1 rfl) ?_
        exact z_ret (w := some (vI 0)) I (fun g => gk1 _ _ g bz0) ⟨_, bz0, rfl⟩ D_law_45.2.2.1.2 rfl
    have J1080 : ∀ (x3 : Int) (ax3 : inR x3) (h : HP), Z Y (m_law_J1080 r1 r2 x3 xs m h) G1 h 1080 [(0, .ref b), (1, vR ad r1), (2, vR ad r2), (3, vI x3)] [] := by
      intro x3 ax3 h
      unfold m_law_J1080
      refine z_s I (s_aload_n (pc' := 1081) 1 rfl D_law_45.2.2.2.1 rfl rfl) ?_
      refine z_s I (s_raload_n (pc' := 1082) 0 rfl D_law_45.2.2.2.2 rfl rfl) ?_
      refine z_s I (s_iload_n (pc' := 1083) 3 rfl D_law_46.1.1.1.1 rfl rfl) ?_
      refine z_s I (s_iconst (pc' := 1084) D_law_46.1.1.1.2 rfl) ?_
      refine z_s I (s_iadd (pc' := 1085) D_law_46.1.1.2.1 rfl) ?_
      refine z_sld (pc' := 1086) IL hm hxs (inR_w32 _) D_law_46.1.1.2.2 rfl (fun c314 => ?_)
      refine z_s I (s_raload_n (pc' := 1087) 0 rfl D_law_46.1.2.1.1 rfl rfl) ?_
      refine z_s I (s_iload_n (pc' := 1088) 3 rfl D_law_46.1.2.1.2 rfl rfl) ?_
      refine z_s I (s_iconst (pc' := 1089) D_law_46.1.2.2.1 rfl) ?_
      refine z_s I (s_iadd (pc' := 1090) D_law_46.1.2.2.2 rfl) ?_
      refine z_sld (pc' := 1091) IL hm hxs (inR_w32 _) D_law_46.2.1.1.1 rfl (fun c315 => ?_)
      refine z_b2 (fun r318 h319 q317 => ?_)
      refine z_callV (pc' := 1094) I mv_Cb_rank ml_law_117 (fun ad => [vI (xs (w32 (x3 + 1))), vI (xs (w32 (x3 + 2)))]) ⟨Nat.le_of_ble_eq_true rfl, Nat.le_of_ble_eq_true rfl⟩ ar1 (fun hh => c_Cb_rank hw ar1 (hxr _) (hxr _) hh q317) rfl rfl (Nat.le_of_ble_eq_true rfl) D_law_46.2.1.1.2 rfl (fun f316 => ?_)
      refine z_s I (s_aload_n (pc' := 1095) 2 rfl D_law_46.2.1.2.1 rfl rfl) ?_
      refine z_s I (s_raload_n (pc' := 1096) 0 rfl D_law_46.2.1.2.2 rfl rfl) ?_
      refine z_s I (s_iload_n (pc' := 1097) 3 rfl D_law_46.2.2.1.1 rfl rfl) ?_
      refine z_s I (s_iconst (pc' := 1098) D_law_46.2.2.1.2 rfl) ?_
      refine z_s I (s_iadd (pc' := 1099) D_law_46.2.2.2.1 rfl) ?_
      refine z_sld (pc' := 1100) IL hm hxs (inR_w32 _) D_law_46.2.2.2.2 rfl (fun c320 => ?_)
      refine z_s I (s_raload_n (pc' := 1101) 0 rfl D_law_47.1.1.1.1 rfl rfl) ?_
      refine z_s I (s_iload_n (pc' := 1102) 3 rfl D_law_47.1.1.1.2 rfl rfl) ?_
      refine z_s I (s_iconst (pc' := 1103) D_law_47.1.1.2.1 rfl) ?_
      refine z_s I (s_iadd (pc' := 1104) D_law_47.1.1.2.2 rfl) ?_
      refine z_sld (pc' := 1105) IL hm hxs (inR_w32 _) D_law_47.1.2.1.1 rfl (fun c321 => ?_)
      refine z_b2 (fun r324 h325 q323 => ?_)
      refine z_callV (pc' := 1108) I mv_Md_rank ml_law_120 (fun ad => [vI (xs (w32 (x3 + 1))), vI (xs (w32 (x3 + 2)))]) ⟨Nat.le_of_ble_eq_true rfl, Nat.le_of_ble_eq_true rfl⟩ ar2 (fun hh => c_Md_rank hw ar2 (hxr _) (hxr _) hh q323) rfl rfl (Nat.le_of_ble_eq_true rfl) D_law_47.1.2.1.2 rfl (fun f322 => ?_)
      refine z_icmp_eq (tgt := 1790) (pc' := 1111) I f316 f322 D_law_47.1.2.2.1 rfl rfl (fun c326 => ?_) (fun c326 => ?_)
      · refine z_s I (s_iinc (pc' := 1793) (lv' := [(3, vI (w32 (x3 + 6))), (0, .ref b), (1, vR ad r1), (2, vR ad r2)]) (n := 3) rfl D_law_81.2.2.2.1 (by decide) rfl rfl) ?_
        refine z_s I (s_goto (tgt := 18) D_law_81.2.2.2.2 rfl) ?_
        refine z_s I (s_lv (lv' := [(0, .ref b), (1, vR ad r1), (2, vR ad r2), (3, vI (w32 (x3 + 6)))]) [1, 2, 3, 0] rfl) ?_
        exact z_end (fun g => hin1_1 _ g (inR_w32 _))
      · refine z_s I (s_iconst (pc' := 1112) D_law_47.1.2.2.2 rfl) ?_
        exact z_ret (w := some (vI 0)) I (fun g => gk1 _ _ g bz0) ⟨_, bz0, rfl⟩ D_law_47.2.1.1.1 rfl
    have J1113 : ∀ (x3 : Int) (ax3 : inR x3) (h : HP), Z Y (m_law_J1113 r1 r2 x3 xs m h) G1 h 1113 [(0, .ref b), (1, vR ad r1), (2, vR ad r2), (3, vI x3)] [] := by
      intro x3 ax3 h
      unfold m_law_J1113
      refine z_s I (s_aload_n (pc' := 1114) 1 rfl D_law_47.2.1.1.2 rfl rfl) ?_
      refine z_s I (s_raload_n (pc' := 1115) 0 rfl D_law_47.2.1.2.1 rfl rfl) ?_
      refine z_s I (s_iload_n (pc' := 1116) 3 rfl D_law_47.2.1.2.2 rfl rfl) ?_
      refine z_s I (s_iconst (pc' := 1117) D_law_47.2.2.1.1 rfl) ?_
      refine z_s I (s_iadd (pc' := 1118) D_law_47.2.2.1.2 rfl) ?_
      refine z_sld (pc' := 1119) IL hm hxs (inR_w32 _) D_law_47.2.2.2.1 rfl (fun c327 => ?_)
      refine z_b2 (fun r330 h331 q329 => ?_)
      refine z_callV (pc' := 1122) I mv_Cb_linked ml_law_121 (fun ad => [vI (xs (w32 (x3 + 1)))]) ⟨Nat.le_of_ble_eq_true rfl, Nat.le_of_ble_eq_true rfl⟩ ar1 (fun hh => c_Cb_linked hw ar1 (hxr _) hh q329) rfl rfl (Nat.le_of_ble_eq_true rfl) D_law_47.2.2.2.2 rfl (fun f328 => ?_)
      refine z_s I (s_aload_n (pc' := 1123) 2 rfl D_law_48.1.1.1.1 rfl rfl) ?_
      refine z_s I (s_raload_n (pc' := 1124) 0 rfl D_law_48.1.1.1.2 rfl rfl) ?_
      refine z_s I (s_iload_n (pc' := 1125) 3 rfl D_law_48.1.1.2.1 rfl rfl) ?_
      refine z_s I (s_iconst (pc' := 1126) D_law_48.1.1.2.2 rfl) ?_
      refine z_s I (s_iadd (pc' := 1127) D_law_48.1.2.1.1 rfl) ?_
      refine z_sld (pc' := 1128) IL hm hxs (inR_w32 _) D_law_48.1.2.1.2 rfl (fun c332 => ?_)
      refine z_b2 (fun r335 h336 q334 => ?_)
      refine z_callV (pc' := 1131) I mv_Md_linked ml_law_124 (fun ad => [vI (xs (w32 (x3 + 1)))]) ⟨Nat.le_of_ble_eq_true rfl, Nat.le_of_ble_eq_true rfl⟩ ar2 (fun hh => c_Md_linked hw ar2 (hxr _) hh q334) rfl rfl (Nat.le_of_ble_eq_true rfl) D_law_48.1.2.2.1 rfl (fun f333 => ?_)
      refine z_icmp_eq (tgt := 1790) (pc' := 1134) I f328 f333 D_law_48.1.2.2.2 rfl rfl (fun c337 => ?_) (fun c337 => ?_)
      · refine z_s I (s_iinc (pc' := 1793) (lv' := [(3, vI (w32 (x3 + 6))), (0, .ref b), (1, vR ad r1), (2, vR ad r2)]) (n := 3) rfl D_law_81.2.2.2.1 (by decide) rfl rfl) ?_
        refine z_s I (s_goto (tgt := 18) D_law_81.2.2.2.2 rfl) ?_
        refine z_s I (s_lv (lv' := [(0, .ref b), (1, vR ad r1), (2, vR ad r2), (3, vI (w32 (x3 + 6)))]) [1, 2, 3, 0] rfl) ?_
        exact z_end (fun g => hin1_1 _ g (inR_w32 _))
      · refine z_s I (s_iconst (pc' := 1135) D_law_48.2.1.1.1 rfl) ?_
        exact z_ret (w := some (vI 0)) I (fun g => gk1 _ _ g bz0) ⟨_, bz0, rfl⟩ D_law_48.2.1.1.2 rfl
    have J1136 : ∀ (x3 : Int) (ax3 : inR x3) (h : HP), Z Y (m_law_J1136 r1 r2 x3 xs m h) G1 h 1136 [(0, .ref b), (1, vR ad r1), (2, vR ad r2), (3, vI x3)] [] := by
      intro x3 ax3 h
      unfold m_law_J1136
      refine z_s I (s_aload_n (pc' := 1137) 1 rfl D_law_48.2.1.2.1 rfl rfl) ?_
      refine z_s I (s_raload_n (pc' := 1138) 0 rfl D_law_48.2.1.2.2 rfl rfl) ?_
      refine z_s I (s_iload_n (pc' := 1139) 3 rfl D_law_48.2.2.1.1 rfl rfl) ?_
      refine z_s I (s_iconst (pc' := 1140) D_law_48.2.2.1.2 rfl) ?_
      refine z_s I (s_iadd (pc' := 1141) D_law_48.2.2.2.1 rfl) ?_
      refine z_sld (pc' := 1142) IL hm hxs (inR_w32 _) D_law_48.2.2.2.2 rfl (fun c338 => ?_)
      refine z_b2 (fun r341 h342 q340 => ?_)
      refine z_callV (pc' := 1145) I mv_Cb_chain ml_law_125 (fun ad => [vI (xs (w32 (x3 + 1)))]) ⟨Nat.le_of_ble_eq_true rfl, Nat.le_of_ble_eq_true rfl⟩ ar1 (fun hh => c_Cb_chain hw ar1 (hxr _) hh q340) rfl rfl (Nat.le_of_ble_eq_true rfl) D_law_49.1.1.1.1 rfl (fun f339 => ?_)
      refine z_s I (s_aload_n (pc' := 1146) 2 rfl D_law_49.1.1.1.2 rfl rfl) ?_
      refine z_s I (s_raload_n (pc' := 1147) 0 rfl D_law_49.1.1.2.1 rfl rfl) ?_
      refine z_s I (s_iload_n (pc' := 1148) 3 rfl D_law_49.1.1.2.2 rfl rfl) ?_
      refine z_s I (s_iconst (pc' := 1149) D_law_49.1.2.1.1 rfl) ?_
      refine z_s I (s_iadd (pc' := 1150) D_law_49.1.2.1.2 rfl) ?_
      refine z_sld (pc' := 1151) IL hm hxs (inR_w32 _) D_law_49.1.2.2.1 rfl (fun c343 => ?_)
      refine z_b2 (fun r346 h347 q345 => ?_)
      refine z_callV (pc' := 1154) I mv_Md_chain ml_law_128 (fun ad => [vI (xs (w32 (x3 + 1)))]) ⟨Nat.le_of_ble_eq_true rfl, Nat.le_of_ble_eq_true rfl⟩ ar2 (fun hh => c_Md_chain hw ar2 (hxr _) hh q345) rfl rfl (Nat.le_of_ble_eq_true rfl) D_law_49.1.2.2.2 rfl (fun f344 => ?_)
      refine z_icmp_eq (tgt := 1790) (pc' := 1157) I f339 f344 D_law_49.2.1.1.1 rfl rfl (fun c348 => ?_) (fun c348 => ?_)
      · refine z_s I (s_iinc (pc' := 1793) (lv' := [(3, vI (w32 (x3 + 6))), (0, .ref b), (1, vR ad r1), (2, vR ad r2)]) (n := 3) rfl D_law_81.2.2.2.1 (by decide) rfl rfl) ?_
        refine z_s I (s_goto (tgt := 18) D_law_81.2.2.2.2 rfl) ?_
        refine z_s I (s_lv (lv' := [(0, .ref b), (1, vR ad r1), (2, vR ad r2), (3, vI (w32 (x3 + 6)))]) [1, 2, 3, 0] rfl) ?_
        exact z_end (fun g => hin1_1 _ g (inR_w32 _))
      · refine z_s I (s_iconst (pc' := 1158) D_law_49.2.1.1.2 rfl) ?_
        exact z_ret (w := some (vI 0)) I (fun g => gk1 _ _ g bz0) ⟨_, bz0, rfl⟩ D_law_49.2.1.2.1 rfl
    have J1159 : ∀ (x3 : Int) (ax3 : inR x3) (h : HP), Z Y (m_law_J1159 r1 r2 x3 xs m h) G1 h 1159 [(0, .ref b), (1, vR ad r1), (2, vR ad r2), (3, vI x3)] [] := by
      intro x3 ax3 h
      unfold m_law_J1159
      refine z_s I (s_aload_n (pc' := 1160) 1 rfl D_law_49.2.1.2.2 rfl rfl) ?_
      refine z_s I (s_raload_n (pc' := 1161) 0 rfl D_law_49.2.2.1.1 rfl rfl) ?_
      refine z_s I (s_iload_n (pc' := 1162) 3 rfl D_law_49.2.2.1.2 rfl rfl) ?_
      refine z_s I (s_iconst (pc' := 1163) D_law_49.2.2.2.1 rfl) ?_
      refine z_s I (s_iadd (pc' := 1164) D_law_49.2.2.2.2 rfl) ?_
      refine z_sld (pc' := 1165) IL hm hxs (inR_w32 _) D_law_50.1.1.1.1 rfl (fun c349 => ?_)
      refine z_b2 (fun r352 h353 q351 => ?_)
      refine z_callV (pc' := 1168) I mv_Cb_group ml_law_129 (fun ad => [vI (xs (w32 (x3 + 1)))]) ⟨Nat.le_of_ble_eq_true rfl, Nat.le_of_ble_eq_true rfl⟩ ar1 (fun hh => c_Cb_group hw ar1 (hxr _) hh q351) rfl rfl (Nat.le_of_ble_eq_true rfl) D_law_50.1.1.1.2 rfl (fun f350 => ?_)
      refine z_s I (s_aload_n (pc' := 1169) 2 rfl D_law_50.1.1.2.1 rfl rfl) ?_
      refine z_s I (s_raload_n (pc' := 1170) 0 rfl D_law_50.1.1.2.2 rfl rfl) ?_
      refine z_s I (s_iload_n (pc' := 1171) 3 rfl D_law_50.1.2.1.1 rfl rfl) ?_
      refine z_s I (s_iconst (pc' := 1172) D_law_50.1.2.1.2 rfl) ?_
      refine z_s I (s_iadd (pc' := 1173) D_law_50.1.2.2.1 rfl) ?_
      refine z_sld (pc' := 1174) IL hm hxs (inR_w32 _) D_law_50.1.2.2.2 rfl (fun c354 => ?_)
      refine z_b2 (fun r357 h358 q356 => ?_)
      refine z_callV (pc' := 1177) I mv_Md_group ml_law_132 (fun ad => [vI (xs (w32 (x3 + 1)))]) ⟨Nat.le_of_ble_eq_true rfl, Nat.le_of_ble_eq_true rfl⟩ ar2 (fun hh => c_Md_group hw ar2 (hxr _) hh q356) rfl rfl (Nat.le_of_ble_eq_true rfl) D_law_50.2.1.1.1 rfl (fun f355 => ?_)
      refine z_icmp_eq (tgt := 1790) (pc' := 1180) I f350 f355 D_law_50.2.1.1.2 rfl rfl (fun c359 => ?_) (fun c359 => ?_)
      · refine z_s I (s_iinc (pc' := 1793) (lv' := [(3, vI (w32 (x3 + 6))), (0, .ref b), (1, vR ad r1), (2, vR ad r2)]) (n := 3) rfl D_law_81.2.2.2.1 (by decide) rfl rfl) ?_
        refine z_s I (s_goto (tgt := 18) D_law_81.2.2.2.2 rfl) ?_
        refine z_s I (s_lv (lv' := [(0, .ref b), (1, vR ad r1), (2, vR ad r2), (3, vI (w32 (x3 + 6)))]) [1, 2, 3, 0] rfl) ?_
        exact z_end (fun g => hin1_1 _ g (inR_w32 _))
      · refine z_s I (s_iconst (pc' := 1181) D_law_50.2.1.2.1 rfl) ?_
        exact z_ret (w := some (vI 0)) I (fun g => gk1 _ _ g bz0) ⟨_, bz0, rfl⟩ D_law_50.2.1.2.2 rfl
    have J1182 : ∀ (x3 : Int) (ax3 : inR x3) (h : HP), Z Y (m_law_J1182 r1 r2 x3 xs m h) G1 h 1182 [(0, .ref b), (1, vR ad r1), (2, vR ad r2), (3, vI x3)] [] := by
      intro x3 ax3 h
      unfold m_law_J1182
      refine z_s I (s_aload_n (pc' := 1183) 1 rfl D_law_50.2.2.1.1 rfl rfl) ?_
      refine z_s I (s_raload_n (pc' := 1184) 0 rfl D_law_50.2.2.1.2 rfl rfl) ?_
      refine z_s I (s_iload_n (pc' := 1185) 3 rfl D_law_50.2.2.2.1 rfl rfl) ?_
      refine z_s I (s_iconst (pc' := 1186) D_law_50.2.2.2.2 rfl) ?_
      refine z_s I (s_iadd (pc' := 1187) D_law_51.1.1.1.1 rfl) ?_
      refine z_sld (pc' := 1188) IL hm hxs (inR_w32 _) D_law_51.1.1.1.2 rfl (fun c360 => ?_)
      refine z_s I (s_raload_n (pc' := 1189) 0 rfl D_law_51.1.1.2.1 rfl rfl) ?_
      refine z_s I (s_iload_n (pc' := 1190) 3 rfl D_law_51.1.1.2.2 rfl rfl) ?_
      refine z_s I (s_iconst (pc' := 1191) D_law_51.1.2.1.1 rfl) ?_
      refine z_s I (s_iadd (pc' := 1192) D_law_51.1.2.1.2 rfl) ?_
      refine z_sld (pc' := 1193) IL hm hxs (inR_w32 _) D_law_51.1.2.2.1 rfl (fun c361 => ?_)
      refine z_b2 (fun r364 h365 q363 => ?_)
      refine z_callV (pc' := 1196) I mv_Cb_seated ml_law_133 (fun ad => [vI (xs (w32 (x3 + 1))), vI (xs (w32 (x3 + 2)))]) ⟨Nat.le_of_ble_eq_true rfl, Nat.le_of_ble_eq_true rfl⟩ ar1 (fun hh => c_Cb_seated hw ar1 (hxr _) (hxr _) hh q363) rfl rfl (Nat.le_of_ble_eq_true rfl) D_law_51.1.2.2.2 rfl (fun f362 => ?_)
      refine z_s I (s_aload_n (pc' := 1197) 2 rfl D_law_51.2.1.1.1 rfl rfl) ?_
      refine z_s I (s_raload_n (pc' := 1198) 0 rfl D_law_51.2.1.1.2 rfl rfl) ?_
      refine z_s I (s_iload_n (pc' := 1199) 3 rfl D_law_51.2.1.2.1 rfl rfl) ?_
      refine z_s I (s_iconst (pc' := 1200) D_law_51.2.1.2.2 rfl) ?_
      refine z_s I (s_iadd (pc' := 1201) D_law_51.2.2.1.1 rfl) ?_
      refine z_sld (pc' := 1202) IL hm hxs (inR_w32 _) D_law_51.2.2.1.2 rfl (fun c366 => ?_)
      refine z_s I (s_raload_n (pc' := 1203) 0 rfl D_law_51.2.2.2.1 rfl rfl) ?_
      refine z_s I (s_iload_n (pc' := 1204) 3 rfl D_law_51.2.2.2.2 rfl rfl) ?_
      refine z_s I (s_iconst (pc' := 1205) D_law_52.1.1.1.1 rfl) ?_
      refine z_s I (s_iadd (pc' := 1206) D_law_52.1.1.1.2 rfl) ?_
      refine z_sld (pc' := 1207) IL hm hxs (inR_w32 _) D_law_52.1.1.2.1 rfl (fun c367 => ?_)
      refine z_b2 (fun r370 h371 q369 => ?_)
      refine z_callV (pc' := 1210) I mv_Md_seated ml_law_136 (fun ad => [vI (xs (w32 (x3 + 1))), vI (xs (w32 (x3 + 2)))]) ⟨Nat.le_of_ble_eq_true rfl, Nat.le_of_ble_eq_true rfl⟩ ar2 (fun hh => c_Md_seated hw ar2 (hxr _) (hxr _) hh q369) rfl rfl (Nat.le_of_ble_eq_true rfl) D_law_52.1.1.2.2 rfl (fun f368 => ?_)
      refine z_s I (s_lcmp (pc' := 1211) f362 f368 D_law_52.1.2.1.1 rfl) ?_
      refine z_if_eq (tgt := 1790) (pc' := 1214) I (inR_lCmp _ _) D_law_52.1.2.1.2 rfl rfl (fun c372 => ?_) (fun c372 => ?_)
      · refine z_s I (s_iinc (pc' := 1793) (lv' := [(3, vI (w32 (x3 + 6))), (0, .ref b), (1, vR ad r1), (2, vR ad r2)]) (n := 3) rfl D_law_81.2.2.2.1 (by decide) rfl rfl) ?_
        refine z_s I (s_goto (tgt := 18) D_law_81.2.2.2.2 rfl) ?_
        refine z_s I (s_lv (lv' := [(0, .ref b), (1, vR ad r1), (2, vR ad r2), (3, vI (w32 (x3 + 6)))]) [1, 2, 3, 0] rfl) ?_
        exact z_end (fun g => hin1_1 _ g (inR_w32 _))
      · refine z_s I (s_iconst (pc' := 1215) D_law_52.1.2.2.1 rfl) ?_
        exact z_ret (w := some (vI 0)) I (fun g => gk1 _ _ g bz0) ⟨_, bz0, rfl⟩ D_law_52.1.2.2.2 rfl
    have J1216 : ∀ (x3 : Int) (ax3 : inR x3) (h : HP), Z Y (m_law_J1216 r1 r2 x3 xs m h) G1 h 1216 [(0, .ref b), (1, vR ad r1), (2, vR ad r2), (3, vI x3)] [] := by
      intro x3 ax3 h
      unfold m_law_J1216
      refine z_s I (s_aload_n (pc' := 1217) 1 rfl D_law_52.2.1.1.1 rfl rfl) ?_
      refine z_s I (s_raload_n (pc' := 1218) 0 rfl D_law_52.2.1.1.2 rfl rfl) ?_
      refine z_s I (s_iload_n (pc' := 1219) 3 rfl D_law_52.2.1.2.1 rfl rfl) ?_
      refine z_s I (s_iconst (pc' := 1220) D_law_52.2.1.2.2 rfl) ?_
      refine z_s I (s_iadd (pc' := 1221) D_law_52.2.2.1.1 rfl) ?_
      refine z_sld (pc' := 1222) IL hm hxs (inR_w32 _) D_law_52.2.2.1.2 rfl (fun c373 => ?_)
      refine z_s I (s_raload_n (pc' := 1223) 0 rfl D_law_52.2.2.2.1 rfl rfl) ?_
      refine z_s I (s_iload_n (pc' := 1224) 3 rfl D_law_52.2.2.2.2 rfl rfl) ?_
      refine z_s I (s_iconst (pc' := 1225) D_law_53.1.1.1.1 rfl) ?_
      refine z_s I (s_iadd (pc' := 1226) D_law_53.1.1.1.2 rfl) ?_
      refine z_sld (pc' := 1227) IL hm hxs (inR_w32 _) D_law_53.1.1.2.1 rfl (fun c374 => ?_)
      refine z_s I (s_raload_n (pc' := 1228) 0 rfl D_law_53.1.1.2.2 rfl rfl) ?_
      refine z_s I (s_iload_n (pc' := 1229) 3 rfl D_law_53.1.2.1.1 rfl rfl) ?_
      refine z_s I (s_iconst (pc' := 1230) D_law_53.1.2.1.2 rfl) ?_
      refine z_s I (s_iadd (pc' := 1231) D_law_53.1.2.2.1 rfl) ?_
      refine z_sld (pc' := 1232) IL hm hxs (inR_w32 _) D_law_53.1.2.2.2 rfl (fun c375 => ?_)
      refine z_b2 (fun r378 h379 q377 => ?_)
      refine z_callV (pc' := 1235) I mv_Cb_drawn ml_law_137 (fun ad => [vI (xs (w32 (x3 + 1))), vI (xs (w32 (x3 + 2))), vI (xs (w32 (x3 + 3)))]) ⟨Nat.le_of_ble_eq_true rfl, Nat.le_of_ble_eq_true rfl⟩ ar1 (fun hh => c_Cb_drawn hw ar1 (hxr _) (hxr _) (hxr _) hh q377) rfl rfl (Nat.le_of_ble_eq_true rfl) D_law_53.2.1.1.1 rfl (fun f376 => ?_)
      refine z_s I (s_aload_n (pc' := 1236) 2 rfl D_law_53.2.1.1.2 rfl rfl) ?_
      refine z_s I (s_raload_n (pc' := 1237) 0 rfl D_law_53.2.1.2.1 rfl rfl) ?_
      refine z_s I (s_iload_n (pc' := 1238) 3 rfl D_law_53.2.1.2.2 rfl rfl) ?_
      refine z_s I (s_iconst (pc' := 1239) D_law_53.2.2.1.1 rfl) ?_
      refine z_s I (s_iadd (pc' := 1240) D_law_53.2.2.1.2 rfl) ?_
      refine z_sld (pc' := 1241) IL hm hxs (inR_w32 _) D_law_53.2.2.2.1 rfl (fun c380 => ?_)
      refine z_s I (s_raload_n (pc' := 1242) 0 rfl D_law_53.2.2.2.2 rfl rfl) ?_
      refine z_s I (s_iload_n (pc' := 1243) 3 rfl D_law_54.1.1.1.1 rfl rfl) ?_
      refine z_s I (s_iconst (pc' := 1244) D_law_54.1.1.1.2 rfl) ?_
      refine z_s I (s_iadd (pc' := 1245) D_law_54.1.1.2.1 rfl) ?_
      refine z_sld (pc' := 1246) IL hm hxs (inR_w32 _) D_law_54.1.1.2.2 rfl (fun c381 => ?_)
      refine z_s I (s_raload_n (pc' := 1247) 0 rfl D_law_54.1.2.1.1 rfl rfl) ?_
      refine z_s I (s_iload_n (pc' := 1248) 3 rfl D_law_54.1.2.1.2 rfl rfl) ?_
      refine z_s I (s_iconst (pc' := 1249) D_law_54.1.2.2.1 rfl) ?_
      refine z_s I (s_iadd (pc' := 1250) D_law_54.1.2.2.2 rfl) ?_
      refine z_sld (pc' := 1251) IL hm hxs (inR_w32 _) D_law_54.2.1.1.1 rfl (fun c382 => ?_)
      refine z_b2 (fun r385 h386 q384 => ?_)
      refine z_callV (pc' := 1254) I mv_Md_drawn ml_law_140 (fun ad => [vI (xs (w32 (x3 + 1))), vI (xs (w32 (x3 + 2))), vI (xs (w32 (x3 + 3)))]) ⟨Nat.le_of_ble_eq_true rfl, Nat.le_of_ble_eq_true rfl⟩ ar2 (fun hh => c_Md_drawn hw ar2 (hxr _) (hxr _) (hxr _) hh q384) rfl rfl (Nat.le_of_ble_eq_true rfl) D_law_54.2.1.1.2 rfl (fun f383 => ?_)
      refine z_icmp_eq (tgt := 1790) (pc' := 1257) I f376 f383 D_law_54.2.1.2.1 rfl rfl (fun c387 => ?_) (fun c387 => ?_)
      · refine z_s I (s_iinc (pc' := 1793) (lv' := [(3, vI (w32 (x3 + 6))), (0, .ref b), (1, vR ad r1), (2, vR ad r2)]) (n := 3) rfl D_law_81.2.2.2.1 (by decide) rfl rfl) ?_
        refine z_s I (s_goto (tgt := 18) D_law_81.2.2.2.2 rfl) ?_
        refine z_s I (s_lv (lv' := [(0, .ref b), (1, vR ad r1), (2, vR ad r2), (3, vI (w32 (x3 + 6)))]) [1, 2, 3, 0] rfl) ?_
        exact z_end (fun g => hin1_1 _ g (inR_w32 _))
      · refine z_s I (s_iconst (pc' := 1258) D_law_54.2.1.2.2 rfl) ?_
        exact z_ret (w := some (vI 0)) I (fun g => gk1 _ _ g bz0) ⟨_, bz0, rfl⟩ D_law_54.2.2.1.1 rfl
    have J1259 : ∀ (x3 : Int) (ax3 : inR x3) (h : HP), Z Y (m_law_J1259 r1 r2 x3 xs m h) G1 h 1259 [(0, .ref b), (1, vR ad r1), (2, vR ad r2), (3, vI x3)] [] := by
      intro x3 ax3 h
      unfold m_law_J1259
      refine z_s I (s_aload_n (pc' := 1260) 1 rfl D_law_54.2.2.1.2 rfl rfl) ?_
      refine z_s I (s_raload_n (pc' := 1261) 0 rfl D_law_54.2.2.2.1 rfl rfl) ?_
      refine z_s I (s_iload_n (pc' := 1262) 3 rfl D_law_54.2.2.2.2 rfl rfl) ?_
      refine z_s I (s_iconst (pc' := 1263) D_law_55.1.1.1.1 rfl) ?_
      refine z_s I (s_iadd (pc' := 1264) D_law_55.1.1.1.2 rfl) ?_
      refine z_sld (pc' := 1265) IL hm hxs (inR_w32 _) D_law_55.1.1.2.1 rfl (fun c388 => ?_)
      refine z_s I (s_raload_n (pc' := 1266) 0 rfl D_law_55.1.1.2.2 rfl rfl) ?_
      refine z_s I (s_iload_n (pc' := 1267) 3 rfl D_law_55.1.2.1.1 rfl rfl) ?_
      refine z_s I (s_iconst (pc' := 1268) D_law_55.1.2.1.2 rfl) ?_
      refine z_s I (s_iadd (pc' := 1269) D_law_55.1.2.2.1 rfl) ?_
      refine z_sld (pc' := 1270) IL hm hxs (inR_w32 _) D_law_55.1.2.2.2 rfl (fun c389 => ?_)
      refine z_s I (s_raload_n (pc' := 1271) 0 rfl D_law_55.2.1.1.1 rfl rfl) ?_
      refine z_s I (s_iload_n (pc' := 1272) 3 rfl D_law_55.2.1.1.2 rfl rfl) ?_
      refine z_s I (s_iconst (pc' := 1273) D_law_55.2.1.2.1 rfl) ?_
      refine z_s I (s_iadd (pc' := 1274) D_law_55.2.1.2.2 rfl) ?_
      refine z_sld (pc' := 1275) IL hm hxs (inR_w32 _) D_law_55.2.2.1.1 rfl (fun c390 => ?_)
      refine z_s I (s_raload_n (pc' := 1276) 0 rfl D_law_55.2.2.1.2 rfl rfl) ?_
      refine z_s I (s_iload_n (pc' := 1277) 3 rfl D_law_55.2.2.2.1 rfl rfl) ?_
      refine z_s I (s_iconst (pc' := 1278) D_law_55.2.2.2.2 rfl) ?_
      refine z_s I (s_iadd (pc' := 1279) D_law_56.1.1.1.1 rfl) ?_
      refine z_sld (pc' := 1280) IL hm hxs (inR_w32 _) D_law_56.1.1.1.2 rfl (fun c391 => ?_)
      refine z_s I (s_raload_n (pc' := 1281) 0 rfl D_law_56.1.1.2.1 rfl rfl) ?_
      refine z_s I (s_iload_n (pc' := 1282) 3 rfl D_law_56.1.1.2.2 rfl rfl) ?_
      refine z_s I (s_iconst (pc' := 1283) D_law_56.1.2.1.1 rfl) ?_
      refine z_s I (s_iadd (pc' := 1284) D_law_56.1.2.1.2 rfl) ?_
      refine z_sld (pc' := 1285) IL hm hxs (inR_w32 _) D_law_56.1.2.2.1 rfl (fun c392 => ?_)
      refine z_b2 (fun r395 h396 q394 => ?_)
      refine z_callV (pc' := 1288) I mv_Cb_chance ml_law_141 (fun ad => [vI (xs (w32 (x3 + 1))), vI (xs (w32 (x3 + 2))), vI (xs (w32 (x3 + 3))), vI (xs (w32 (x3 + 4))), vI (xs (w32 (x3 + 5)))]) ⟨Nat.le_of_ble_eq_true rfl, Nat.le_of_ble_eq_true rfl⟩ ar1 (fun hh => c_Cb_chance hw ar1 (hxr _) (hxr _) (hxr _) (hxr _) (hxr _) hh q394) rfl rfl (Nat.le_of_ble_eq_true rfl) D_law_56.1.2.2.2 rfl (fun f393 => ?_)
      refine z_s I (s_aload_n (pc' := 1289) 2 rfl D_law_56.2.1.1.1 rfl rfl) ?_
      refine z_s I (s_raload_n (pc' := 1290) 0 rfl D_law_56.2.1.1.2 rfl rfl) ?_
      refine z_s I (s_iload_n (pc' := 1291) 3 rfl D_law_56.2.1.2.1 rfl rfl) ?_
      refine z_s I (s_iconst (pc' := 1292) D_law_56.2.1.2.2 rfl) ?_
      refine z_s I (s_iadd (pc' := 1293) D_law_56.2.2.1.1 rfl) ?_
      refine z_sld (pc' := 1294) IL hm hxs (inR_w32 _) D_law_56.2.2.1.2 rfl (fun c397 => ?_)
      refine z_s I (s_raload_n (pc' := 1295) 0 rfl D_law_56.2.2.2.1 rfl rfl) ?_
      refine z_s I (s_iload_n (pc' := 1296) 3 rfl D_law_56.2.2.2.2 rfl rfl) ?_
      refine z_s I (s_iconst (pc' := 1297) D_law_57.1.1.1.1 rfl) ?_
      refine z_s I (s_iadd (pc' := 1298) D_law_57.1.1.1.2 rfl) ?_
      refine z_sld (pc' := 1299) IL hm hxs (inR_w32 _) D_law_57.1.1.2.1 rfl (fun c398 => ?_)
      refine z_s I (s_raload_n (pc' := 1300) 0 rfl D_law_57.1.1.2.2 rfl rfl) ?_
      refine z_s I (s_iload_n (pc' := 1301) 3 rfl D_law_57.1.2.1.1 rfl rfl) ?_
      refine z_s I (s_iconst (pc' := 1302) D_law_57.1.2.1.2 rfl) ?_
      refine z_s I (s_iadd (pc' := 1303) D_law_57.1.2.2.1 rfl) ?_
      refine z_sld (pc' := 1304) IL hm hxs (inR_w32 _) D_law_57.1.2.2.2 rfl (fun c399 => ?_)
      refine z_s I (s_raload_n (pc' := 1305) 0 rfl D_law_57.2.1.1.1 rfl rfl) ?_
      refine z_s I (s_iload_n (pc' := 1306) 3 rfl D_law_57.2.1.1.2 rfl rfl) ?_
      refine z_s I (s_iconst (pc' := 1307) D_law_57.2.1.2.1 rfl) ?_
      refine z_s I (s_iadd (pc' := 1308) D_law_57.2.1.2.2 rfl) ?_
      refine z_sld (pc' := 1309) IL hm hxs (inR_w32 _) D_law_57.2.2.1.1 rfl (fun c400 => ?_)
      refine z_s I (s_raload_n (pc' := 1310) 0 rfl D_law_57.2.2.1.2 rfl rfl) ?_
      refine z_s I (s_iload_n (pc' := 1311) 3 rfl D_law_57.2.2.2.1 rfl rfl) ?_
      refine z_s I (s_iconst (pc' := 1312) D_law_57.2.2.2.2 rfl) ?_
      refine z_s I (s_iadd (pc' := 1313) D_law_58.1.1.1.1 rfl) ?_
      refine z_sld (pc' := 1314) IL hm hxs (inR_w32 _) D_law_58.1.1.1.2 rfl (fun c401 => ?_)
      refine z_b2 (fun r404 h405 q403 => ?_)
      refine z_callV (pc' := 1317) I mv_Md_chance ml_law_144 (fun ad => [vI (xs (w32 (x3 + 1))), vI (xs (w32 (x3 + 2))), vI (xs (w32 (x3 + 3))), vI (xs (w32 (x3 + 4))), vI (xs (w32 (x3 + 5)))]) ⟨Nat.le_of_ble_eq_true rfl, Nat.le_of_ble_eq_true rfl⟩ ar2 (fun hh => c_Md_chance hw ar2 (hxr _) (hxr _) (hxr _) (hxr _) (hxr _) hh q403) rfl rfl (Nat.le_of_ble_eq_true rfl) D_law_58.1.1.2.1 rfl (fun f402 => ?_)
      refine z_s I (s_lcmp (pc' := 1318) f393 f402 D_law_58.1.1.2.2 rfl) ?_
      refine z_if_eq (tgt := 1790) (pc' := 1321) I (inR_lCmp _ _) D_law_58.1.2.1.1 rfl rfl (fun c406 => ?_) (fun c406 => ?_)
      · refine z_s I (s_iinc (pc' := 1793) (lv' := [(3, vI (w32 (x3 + 6))), (0, .ref b), (1, vR ad r1), (2, vR ad r2)]) (n := 3) rfl D_law_81.2.2.2.1 (by decide) rfl rfl) ?_
        refine z_s I (s_goto (tgt := 18) D_law_81.2.2.2.2 rfl) ?_
        refine z_s I (s_lv (lv' := [(0, .ref b), (1, vR ad r1), (2, vR ad r2), (3, vI (w32 (x3 + 6)))]) [1, 2, 3, 0] rfl) ?_
        exact z_end (fun g => hin1_1 _ g (inR_w32 _))
      · refine z_s I (s_iconst (pc' := 1322) D_law_58.1.2.1.2 rfl) ?_
        exact z_ret (w := some (vI 0)) I (fun g => gk1 _ _ g bz0) ⟨_, bz0, rfl⟩ D_law_58.1.2.2.1 rfl
    have J1374 : ∀ (x3 : Int) (ax3 : inR x3) (s0 : Int) (as0 : inR s0) (s1 : Int) (as1 : ok τ (4, 10) s1) (s2 : Int) (as2 : inR s2) (s3 : Int) (as3 : inR s3) (s4 : Int) (as4 : b01 s4) (h : HP), Z Y (m_law_J1374 r1 r2 x3 s0 s1 s2 s3 s4 xs m h) G1 h 1374 [(0, .ref b), (1, vR ad r1), (2, vR ad r2), (3, vI x3)] [vI s4, vI s3, vI s2, vR ad s1, vI s0] := by
      intro x3 ax3 s0 as0 s1 as1 s2 as2 s3 as3 s4 as4 h
      unfold m_law_J1374
      refine z_b2 (fun r409 h410 q408 => ?_)
      refine z_callV (pc' := 1377) I mv_Md_see ml_law_149 (fun ad => [vI s2, vI s3, vI s4]) ⟨Nat.le_of_ble_eq_true rfl, Nat.le_of_ble_eq_true rfl⟩ as1 (fun hh => c_Md_see hw as1 as2 as3 as4 hh q408) rfl rfl (Nat.le_of_ble_eq_true rfl) D_law_61.1.1.1.1 rfl (fun f407 => ?_)
      refine z_icmp_eq (tgt := 1790) (pc' := 1380) I as0 f407 D_law_61.1.1.1.2 rfl rfl (fun c411 => ?_) (fun c411 => ?_)
      · refine z_s I (s_iinc (pc' := 1793) (lv' := [(3, vI (w32 (x3 + 6))), (0, .ref b), (1, vR ad r1), (2, vR ad r2)]) (n := 3) rfl D_law_81.2.2.2.1 (by decide) rfl rfl) ?_
        refine z_s I (s_goto (tgt := 18) D_law_81.2.2.2.2 rfl) ?_
        refine z_s I (s_lv (lv' := [(0, .ref b), (1, vR ad r1), (2, vR ad r2), (3, vI (w32 (x3 + 6)))]) [1, 2, 3, 0] rfl) ?_
        exact z_end (fun g => hin1_1 _ g (inR_w32 _))
      · refine z_s I (s_iconst (pc' := 1381) D_law_61.1.1.2.1 rfl) ?_
        exact z_ret (w := some (vI 0)) I (fun g => gk1 _ _ g bz0) ⟨_, bz0, rfl⟩ D_law_61.1.1.2.2 rfl
    have J1347 : ∀ (x3 : Int) (ax3 : inR x3) (s0 : Int) (as0 : ok τ (4, 9) s0) (s1 : Int) (as1 : inR s1) (s2 : Int) (as2 : inR s2) (s3 : Int) (as3 : b01 s3) (h : HP), Z Y (m_law_J1347 r1 r2 x3 s0 s1 s2 s3 xs m h) G1 h 1347 [(0, .ref b), (1, vR ad r1), (2, vR ad r2), (3, vI x3)] [vI s3, vI s2, vI s1, vR ad s0] := by
      intro x3 ax3 s0 as0 s1 as1 s2 as2 s3 as3 h
      unfold m_law_J1347
      refine z_b2 (fun r414 h415 q413 => ?_)
      refine z_callV (pc' := 1350) I mv_Cb_see ml_law_145 (fun ad => [vI s1, vI s2, vI s3]) ⟨Nat.le_of_ble_eq_true rfl, Nat.le_of_ble_eq_true rfl⟩ as0 (fun hh => c_Cb_see hw as0 as1 as2 as3 hh q413) rfl rfl (Nat.le_of_ble_eq_true rfl) D_law_59.2.1.2.2 rfl (fun f412 => ?_)
      refine z_s I (s_aload_n (pc' := 1351) 2 rfl D_law_59.2.2.1.1 rfl rfl) ?_
      refine z_s I (s_raload_n (pc' := 1352) 0 rfl D_law_59.2.2.1.2 rfl rfl) ?_
      refine z_s I (s_iload_n (pc' := 1353) 3 rfl D_law_59.2.2.2.1 rfl rfl) ?_
      refine z_s I (s_iconst (pc' := 1354) D_law_59.2.2.2.2 rfl) ?_
      refine z_s I (s_iadd (pc' := 1355) D_law_60.1.1.1.1 rfl) ?_
      refine z_sld (pc' := 1356) IL hm hxs (inR_w32 _) D_law_60.1.1.1.2 rfl (fun c416 => ?_)
      refine z_s I (s_raload_n (pc' := 1357) 0 rfl D_law_60.1.1.2.1 rfl rfl) ?_
      refine z_s I (s_iload_n (pc' := 1358) 3 rfl D_law_60.1.1.2.2 rfl rfl) ?_
      refine z_s I (s_iconst (pc' := 1359) D_law_60.1.2.1.1 rfl) ?_
      refine z_s I (s_iadd (pc' := 1360) D_law_60.1.2.1.2 rfl) ?_
      refine z_sld (pc' := 1361) IL hm hxs (inR_w32 _) D_law_60.1.2.2.1 rfl (fun c417 => ?_)
      refine z_s I (s_raload_n (pc' := 1362) 0 rfl D_law_60.1.2.2.2 rfl rfl) ?_
      refine z_s I (s_iload_n (pc' := 1363) 3 rfl D_law_60.2.1.1.1 rfl rfl) ?_
      refine z_s I (s_iconst (pc' := 1364) D_law_60.2.1.1.2 rfl) ?_
      refine z_s I (s_iadd (pc' := 1365) D_law_60.2.1.2.1 rfl) ?_
      refine z_sld (pc' := 1366) IL hm hxs (inR_w32 _) D_law_60.2.1.2.2 rfl (fun c418 => ?_)
      refine z_if_eq (tgt := 1373) (pc' := 1369) I (hxr _) D_law_60.2.2.1.1 rfl rfl (fun c419 => ?_) (fun c419 => ?_)
      · refine z_s I (s_iconst (pc' := 1374) D_law_60.2.2.2.2 rfl) ?_
        exact J1374 _ ax3 _ f412 _ ar2 _ (hxr _) _ (hxr _) _ bz0 _
      · refine z_s I (s_iconst (pc' := 1370) D_law_60.2.2.1.2 rfl) ?_
        refine z_s I (s_goto (tgt := 1374) D_law_60.2.2.2.1 rfl) ?_
        exact J1374 _ ax3 _ f412 _ ar2 _ (hxr _) _ (hxr _) _ bz1 _
    have J1323 : ∀ (x3 : Int) (ax3 : inR x3) (h : HP), Z Y (m_law_J1323 r1 r2 x3 xs m h) G1 h 1323 [(0, .ref b), (1, vR ad r1), (2, vR ad r2), (3, vI x3)] [] := by
      intro x3 ax3 h
      unfold m_law_J1323
      refine z_s I (s_aload_n (pc' := 1324) 1 rfl D_law_58.1.2.2.2 rfl rfl) ?_
      refine z_s I (s_raload_n (pc' := 1325) 0 rfl D_law_58.2.1.1.1 rfl rfl) ?_
      refine z_s I (s_iload_n (pc' := 1326) 3 rfl D_law_58.2.1.1.2 rfl rfl) ?_
      refine z_s I (s_iconst (pc' := 1327) D_law_58.2.1.2.1 rfl) ?_
      refine z_s I (s_iadd (pc' := 1328) D_law_58.2.1.2.2 rfl) ?_
      refine z_sld (pc' := 1329) IL hm hxs (inR_w32 _) D_law_58.2.2.1.1 rfl (fun c420 => ?_)
      refine z_s I (s_raload_n (pc' := 1330) 0 rfl D_law_58.2.2.1.2 rfl rfl) ?_
      refine z_s I (s_iload_n (pc' := 1331) 3 rfl D_law_58.2.2.2.1 rfl rfl) ?_
      refine z_s I (s_iconst (pc' := 1332) D_law_58.2.2.2.2 rfl) ?_
      refine z_s I (s_iadd (pc' := 1333) D_law_59.1.1.1.1 rfl) ?_
      refine z_sld (pc' := 1334) IL hm hxs (inR_w32 _) D_law_59.1.1.1.2 rfl (fun c421 => ?_)
      refine z_s I (s_raload_n (pc' := 1335) 0 rfl D_law_59.1.1.2.1 rfl rfl) ?_
      refine z_s I (s_iload_n (pc' := 1336) 3 rfl D_law_59.1.1.2.2 rfl rfl) ?_
      refine z_s I (s_iconst (pc' := 1337) D_law_59.1.2.1.1 rfl) ?_
      refine z_s I (s_iadd (pc' := 1338) D_law_59.1.2.1.2 rfl) ?_
      refine z_sld (pc' := 1339) IL hm hxs (inR_w32 _) D_law_59.1.2.2.1 rfl (fun c422 => ?_)
      refine z_if_eq (tgt := 1346) (pc' := 1342) I (hxr _) D_law_59.1.2.2.2 rfl rfl (fun c423 => ?_) (fun c423 => ?_)
      · refine z_s I (s_iconst (pc' := 1347) D_law_59.2.1.2.1 rfl) ?_
        exact J1347 _ ax3 _ ar1 _ (hxr _) _ (hxr _) _ bz0 _
      · refine z_s I (s_iconst (pc' := 1343) D_law_59.2.1.1.1 rfl) ?_
        refine z_s I (s_goto (tgt := 1347) D_law_59.2.1.1.2 rfl) ?_
        exact J1347 _ ax3 _ ar1 _ (hxr _) _ (hxr _) _ bz1 _
    have J1382 : ∀ (x3 : Int) (ax3 : inR x3) (h : HP), Z Y (m_law_J1382 r1 r2 x3 xs m h) G1 h 1382 [(0, .ref b), (1, vR ad r1), (2, vR ad r2), (3, vI x3)] [] := by
      intro x3 ax3 h
      unfold m_law_J1382
      refine z_s I (s_aload_n (pc' := 1383) 1 rfl D_law_61.1.2.1.1 rfl rfl) ?_
      refine z_s I (s_raload_n (pc' := 1384) 0 rfl D_law_61.1.2.1.2 rfl rfl) ?_
      refine z_s I (s_iload_n (pc' := 1385) 3 rfl D_law_61.1.2.2.1 rfl rfl) ?_
      refine z_s I (s_iconst (pc' := 1386) D_law_61.1.2.2.2 rfl) ?_
      refine z_s I (s_iadd (pc' := 1387) D_law_61.2.1.1.1 rfl) ?_
      refine z_sld (pc' := 1388) IL hm hxs (inR_w32 _) D_law_61.2.1.1.2 rfl (fun c424 => ?_)
      refine z_b2 (fun r427 h428 q426 => ?_)
      refine z_callV (pc' := 1391) I mv_Cb_fits ml_law_150 (fun ad => [vI (xs (w32 (x3 + 1)))]) ⟨Nat.le_of_ble_eq_true rfl, Nat.le_of_ble_eq_true rfl⟩ ar1 (fun hh => c_Cb_fits hw ar1 (hxr _) hh q426) rfl rfl (Nat.le_of_ble_eq_true rfl) D_law_61.2.1.2.1 rfl (fun f425 => ?_)
      refine z_s I (s_aload_n (pc' := 1392) 2 rfl D_law_61.2.1.2.2 rfl rfl) ?_
      refine z_s I (s_raload_n (pc' := 1393) 0 rfl D_law_61.2.2.1.1 rfl rfl) ?_
      refine z_s I (s_iload_n (pc' := 1394) 3 rfl D_law_61.2.2.1.2 rfl rfl) ?_
      refine z_s I (s_iconst (pc' := 1395) D_law_61.2.2.2.1 rfl) ?_
      refine z_s I (s_iadd (pc' := 1396) D_law_61.2.2.2.2 rfl) ?_
      refine z_sld (pc' := 1397) IL hm hxs (inR_w32 _) D_law_62.1.1.1.1 rfl (fun c429 => ?_)
      refine z_b2 (fun r432 h433 q431 => ?_)
      refine z_callV (pc' := 1400) I mv_Md_fits ml_law_153 (fun ad => [vI (xs (w32 (x3 + 1)))]) ⟨Nat.le_of_ble_eq_true rfl, Nat.le_of_ble_eq_true rfl⟩ ar2 (fun hh => c_Md_fits hw ar2 (hxr _) hh q431) rfl rfl (Nat.le_of_ble_eq_true rfl) D_law_62.1.1.1.2 rfl (fun f430 => ?_)
      refine z_icmp_eq (tgt := 1790) (pc' := 1403) I f425 f430 D_law_62.1.1.2.1 rfl rfl (fun c434 => ?_) (fun c434 => ?_)
      · refine z_s I (s_iinc (pc' := 1793) (lv' := [(3, vI (w32 (x3 + 6))), (0, .ref b), (1, vR ad r1), (2, vR ad r2)]) (n := 3) rfl D_law_81.2.2.2.1 (by decide) rfl rfl) ?_
        refine z_s I (s_goto (tgt := 18) D_law_81.2.2.2.2 rfl) ?_
        refine z_s I (s_lv (lv' := [(0, .ref b), (1, vR ad r1), (2, vR ad r2), (3, vI (w32 (x3 + 6)))]) [1, 2, 3, 0] rfl) ?_
        exact z_end (fun g => hin1_1 _ g (inR_w32 _))
      · refine z_s I (s_iconst (pc' := 1404) D_law_62.1.1.2.2 rfl) ?_
        exact z_ret (w := some (vI 0)) I (fun g => gk1 _ _ g bz0) ⟨_, bz0, rfl⟩ D_law_62.1.2.1.1 rfl
    have J1405 : ∀ (x3 : Int) (ax3 : inR x3) (h : HP), Z Y (m_law_J1405 r1 r2 x3 xs m h) G1 h 1405 [(0, .ref b), (1, vR ad r1), (2, vR ad r2), (3, vI x3)] [] := by
      intro x3 ax3 h
      unfold m_law_J1405
      refine z_s I (s_aload_n (pc' := 1406) 1 rfl D_law_62.1.2.1.2 rfl rfl) ?_
      refine z_s I (s_raload_n (pc' := 1407) 0 rfl D_law_62.1.2.2.1 rfl rfl) ?_
      refine z_s I (s_iload_n (pc' := 1408) 3 rfl D_law_62.1.2.2.2 rfl rfl) ?_
      refine z_s I (s_iconst (pc' := 1409) D_law_62.2.1.1.1 rfl) ?_
      refine z_s I (s_iadd (pc' := 1410) D_law_62.2.1.1.2 rfl) ?_
      refine z_sld (pc' := 1411) IL hm hxs (inR_w32 _) D_law_62.2.1.2.1 rfl (fun c435 => ?_)
      refine z_b2 (fun r438 h439 q437 => ?_)
      refine z_callV (pc' := 1414) I mv_Cb_mean ml_law_154 (fun ad => [vI (xs (w32 (x3 + 1)))]) ⟨Nat.le_of_ble_eq_true rfl, Nat.le_of_ble_eq_true rfl⟩ ar1 (fun hh => c_Cb_mean hw ar1 (hxr _) hh q437) rfl rfl (Nat.le_of_ble_eq_true rfl) D_law_62.2.1.2.2 rfl (fun f436 => ?_)
      refine z_s I (s_aload_n (pc' := 1415) 2 rfl D_law_62.2.2.1.1 rfl rfl) ?_
      refine z_s I (s_raload_n (pc' := 1416) 0 rfl D_law_62.2.2.1.2 rfl rfl) ?_
      refine z_s I (s_iload_n (pc' := 1417) 3 rfl D_law_62.2.2.2.1 rfl rfl) ?_
      refine z_s I (s_iconst (pc' := 1418) D_law_62.2.2.2.2 rfl) ?_
      refine z_s I (s_iadd (pc' := 1419) D_law_63.1.1.1.1 rfl) ?_
      refine z_sld (pc' := 1420) IL hm hxs (inR_w32 _) D_law_63.1.1.1.2 rfl (fun c440 => ?_)
      refine z_b2 (fun r443 h444 q442 => ?_)
      refine z_callV (pc' := 1423) I mv_Md_mean ml_law_158 (fun ad => [vI (xs (w32 (x3 + 1)))]) ⟨Nat.le_of_ble_eq_true rfl, Nat.le_of_ble_eq_true rfl⟩ ar2 (fun hh => c_Md_mean hw ar2 (hxr _) hh q442) rfl rfl (Nat.le_of_ble_eq_true rfl) D_law_63.1.1.2.1 rfl (fun f441 => ?_)
      refine z_s I (s_lcmp (pc' := 1424) f436 f441 D_law_63.1.1.2.2 rfl) ?_
      refine z_if_eq (tgt := 1790) (pc' := 1427) I (inR_lCmp _ _) D_law_63.1.2.1.1 rfl rfl (fun c445 => ?_) (fun c445 => ?_)
      · refine z_s I (s_iinc (pc' := 1793) (lv' := [(3, vI (w32 (x3 + 6))), (0, .ref b), (1, vR ad r1), (2, vR ad r2)]) (n := 3) rfl D_law_81.2.2.2.1 (by decide) rfl rfl) ?_
        refine z_s I (s_goto (tgt := 18) D_law_81.2.2.2.2 rfl) ?_
        refine z_s I (s_lv (lv' := [(0, .ref b), (1, vR ad r1), (2, vR ad r2), (3, vI (w32 (x3 + 6)))]) [1, 2, 3, 0] rfl) ?_
        exact z_end (fun g => hin1_1 _ g (inR_w32 _))
      · refine z_s I (s_iconst (pc' := 1428) D_law_63.1.2.1.2 rfl) ?_
        exact z_ret (w := some (vI 0)) I (fun g => gk1 _ _ g bz0) ⟨_, bz0, rfl⟩ D_law_63.1.2.2.1 rfl
    have J1429 : ∀ (x3 : Int) (ax3 : inR x3) (h : HP), Z Y (m_law_J1429 r1 r2 x3 xs m h) G1 h 1429 [(0, .ref b), (1, vR ad r1), (2, vR ad r2), (3, vI x3)] [] := by
      intro x3 ax3 h
      unfold m_law_J1429
      refine z_s I (s_aload_n (pc' := 1430) 1 rfl D_law_63.1.2.2.2 rfl rfl) ?_
      refine z_s I (s_raload_n (pc' := 1431) 0 rfl D_law_63.2.1.1.1 rfl rfl) ?_
      refine z_s I (s_iload_n (pc' := 1432) 3 rfl D_law_63.2.1.1.2 rfl rfl) ?_
      refine z_s I (s_iconst (pc' := 1433) D_law_63.2.1.2.1 rfl) ?_
      refine z_s I (s_iadd (pc' := 1434) D_law_63.2.1.2.2 rfl) ?_
      refine z_sld (pc' := 1435) IL hm hxs (inR_w32 _) D_law_63.2.2.1.1 rfl (fun c446 => ?_)
      refine z_s I (s_raload_n (pc' := 1436) 0 rfl D_law_63.2.2.1.2 rfl rfl) ?_
      refine z_s I (s_iload_n (pc' := 1437) 3 rfl D_law_63.2.2.2.1 rfl rfl) ?_
      refine z_s I (s_iconst (pc' := 1438) D_law_63.2.2.2.2 rfl) ?_
      refine z_s I (s_iadd (pc' := 1439) D_law_64.1.1.1.1 rfl) ?_
      refine z_sld (pc' := 1440) IL hm hxs (inR_w32 _) D_law_64.1.1.1.2 rfl (fun c447 => ?_)
      refine z_s I (s_raload_n (pc' := 1441) 0 rfl D_law_64.1.1.2.1 rfl rfl) ?_
      refine z_s I (s_iload_n (pc' := 1442) 3 rfl D_law_64.1.1.2.2 rfl rfl) ?_
      refine z_s I (s_iconst (pc' := 1443) D_law_64.1.2.1.1 rfl) ?_
      refine z_s I (s_iadd (pc' := 1444) D_law_64.1.2.1.2 rfl) ?_
      refine z_sld (pc' := 1445) IL hm hxs (inR_w32 _) D_law_64.1.2.2.1 rfl (fun c448 => ?_)
      refine z_b2 (fun r451 h452 q450 => ?_)
      refine z_callV (pc' := 1448) I mv_Cb_plan ml_law_159 (fun ad => [vI (xs (w32 (x3 + 1))), vI (xs (w32 (x3 + 2))), vI (xs (w32 (x3 + 3)))]) ⟨Nat.le_of_ble_eq_true rfl, Nat.le_of_ble_eq_true rfl⟩ ar1 (fun hh => c_Cb_plan hw ar1 (hxr _) (hxr _) (hxr _) hh q450) rfl rfl (Nat.le_of_ble_eq_true rfl) D_law_64.1.2.2.2 rfl (fun f449 => ?_)
      refine z_s I (s_aload_n (pc' := 1449) 2 rfl D_law_64.2.1.1.1 rfl rfl) ?_
      refine z_s I (s_raload_n (pc' := 1450) 0 rfl D_law_64.2.1.1.2 rfl rfl) ?_
      refine z_s I (s_iload_n (pc' := 1451) 3 rfl D_law_64.2.1.2.1 rfl rfl) ?_
      refine z_s I (s_iconst (pc' := 1452) D_law_64.2.1.2.2 rfl) ?_
      refine z_s I (s_iadd (pc' := 1453) D_law_64.2.2.1.1 rfl) ?_
      refine z_sld (pc' := 1454) IL hm hxs (inR_w32 _) D_law_64.2.2.1.2 rfl (fun c453 => ?_)
      refine z_s I (s_raload_n (pc' := 1455) 0 rfl D_law_64.2.2.2.1 rfl rfl) ?_
      refine z_s I (s_iload_n (pc' := 1456) 3 rfl D_law_64.2.2.2.2 rfl rfl) ?_
      refine z_s I (s_iconst (pc' := 1457) D_law_65.1.1.1.1 rfl) ?_
      refine z_s I (s_iadd (pc' := 1458) D_law_65.1.1.1.2 rfl) ?_
      refine z_sld (pc' := 1459) IL hm hxs (inR_w32 _) D_law_65.1.1.2.1 rfl (fun c454 => ?_)
      refine z_s I (s_raload_n (pc' := 1460) 0 rfl D_law_65.1.1.2.2 rfl rfl) ?_
      refine z_s I (s_iload_n (pc' := 1461) 3 rfl D_law_65.1.2.1.1 rfl rfl) ?_
      refine z_s I (s_iconst (pc' := 1462) D_law_65.1.2.1.2 rfl) ?_
      refine z_s I (s_iadd (pc' := 1463) D_law_65.1.2.2.1 rfl) ?_
      refine z_sld (pc' := 1464) IL hm hxs (inR_w32 _) D_law_65.1.2.2.2 rfl (fun c455 => ?_)
      refine z_b2 (fun r458 h459 q457 => ?_)
      refine z_callV (pc' := 1467) I mv_Md_plan ml_law_162 (fun ad => [vI (xs (w32 (x3 + 1))), vI (xs (w32 (x3 + 2))), vI (xs (w32 (x3 + 3)))]) ⟨Nat.le_of_ble_eq_true rfl, Nat.le_of_ble_eq_true rfl⟩ ar2 (fun hh => c_Md_plan hw ar2 (hxr _) (hxr _) (hxr _) hh q457) rfl rfl (Nat.le_of_ble_eq_true rfl) D_law_65.2.1.1.1 rfl (fun f456 => ?_)
      refine z_icmp_eq (tgt := 1790) (pc' := 1470) I f449 f456 D_law_65.2.1.1.2 rfl rfl (fun c460 => ?_) (fun c460 => ?_)
      · refine z_s I (s_iinc (pc' := 1793) (lv' := [(3, vI (w32 (x3 + 6))), (0, .ref b), (1, vR ad r1), (2, vR ad r2)]) (n := 3) rfl D_law_81.2.2.2.1 (by decide) rfl rfl) ?_
        refine z_s I (s_goto (tgt := 18) D_law_81.2.2.2.2 rfl) ?_
        refine z_s I (s_lv (lv' := [(0, .ref b), (1, vR ad r1), (2, vR ad r2), (3, vI (w32 (x3 + 6)))]) [1, 2, 3, 0] rfl) ?_
        exact z_end (fun g => hin1_1 _ g (inR_w32 _))
      · refine z_s I (s_iconst (pc' := 1471) D_law_65.2.1.2.1 rfl) ?_
        exact z_ret (w := some (vI 0)) I (fun g => gk1 _ _ g bz0) ⟨_, bz0, rfl⟩ D_law_65.2.1.2.2 rfl
    have J1472 : ∀ (x3 : Int) (ax3 : inR x3) (h : HP), Z Y (m_law_J1472 r1 r2 x3 xs m h) G1 h 1472 [(0, .ref b), (1, vR ad r1), (2, vR ad r2), (3, vI x3)] [] := by
      intro x3 ax3 h
      unfold m_law_J1472
      refine z_s I (s_aload_n (pc' := 1473) 1 rfl D_law_65.2.2.1.1 rfl rfl) ?_
      refine z_b2 (fun r463 h464 q462 => ?_)
      refine z_callV (pc' := 1476) I mv_Cb_ends ml_law_163 (fun ad => []) ⟨Nat.le_of_ble_eq_true rfl, Nat.le_of_ble_eq_true rfl⟩ ar1 (fun hh => c_Cb_ends hw ar1 hh q462) rfl rfl (Nat.le_of_ble_eq_true rfl) D_law_65.2.2.1.2 rfl (fun f461 => ?_)
      refine z_s I (s_aload_n (pc' := 1477) 2 rfl D_law_65.2.2.2.1 rfl rfl) ?_
      refine z_b2 (fun r467 h468 q466 => ?_)
      refine z_callV (pc' := 1480) I mv_Md_ends ml_law_166 (fun ad => []) ⟨Nat.le_of_ble_eq_true rfl, Nat.le_of_ble_eq_true rfl⟩ ar2 (fun hh => c_Md_ends hw ar2 hh q466) rfl rfl (Nat.le_of_ble_eq_true rfl) D_law_65.2.2.2.2 rfl (fun f465 => ?_)
      refine z_icmp_eq (tgt := 1790) (pc' := 1483) I f461 f465 D_law_66.1.1.1.1 rfl rfl (fun c469 => ?_) (fun c469 => ?_)
      · refine z_s I (s_iinc (pc' := 1793) (lv' := [(3, vI (w32 (x3 + 6))), (0, .ref b), (1, vR ad r1), (2, vR ad r2)]) (n := 3) rfl D_law_81.2.2.2.1 (by decide) rfl rfl) ?_
        refine z_s I (s_goto (tgt := 18) D_law_81.2.2.2.2 rfl) ?_
        refine z_s I (s_lv (lv' := [(0, .ref b), (1, vR ad r1), (2, vR ad r2), (3, vI (w32 (x3 + 6)))]) [1, 2, 3, 0] rfl) ?_
        exact z_end (fun g => hin1_1 _ g (inR_w32 _))
      · refine z_s I (s_iconst (pc' := 1484) D_law_66.1.1.1.2 rfl) ?_
        exact z_ret (w := some (vI 0)) I (fun g => gk1 _ _ g bz0) ⟨_, bz0, rfl⟩ D_law_66.1.1.2.1 rfl
    have J1485 : ∀ (x3 : Int) (ax3 : inR x3) (h : HP), Z Y (m_law_J1485 r1 r2 x3 xs m h) G1 h 1485 [(0, .ref b), (1, vR ad r1), (2, vR ad r2), (3, vI x3)] [] := by
      intro x3 ax3 h
      unfold m_law_J1485
      refine z_s I (s_aload_n (pc' := 1486) 1 rfl D_law_66.1.1.2.2 rfl rfl) ?_
      refine z_s I (s_raload_n (pc' := 1487) 0 rfl D_law_66.1.2.1.1 rfl rfl) ?_
      refine z_s I (s_iload_n (pc' := 1488) 3 rfl D_law_66.1.2.1.2 rfl rfl) ?_
      refine z_s I (s_iconst (pc' := 1489) D_law_66.1.2.2.1 rfl) ?_
      refine z_s I (s_iadd (pc' := 1490) D_law_66.1.2.2.2 rfl) ?_
      refine z_sld (pc' := 1491) IL hm hxs (inR_w32 _) D_law_66.2.1.1.1 rfl (fun c470 => ?_)
      refine z_s I (s_raload_n (pc' := 1492) 0 rfl D_law_66.2.1.1.2 rfl rfl) ?_
      refine z_s I (s_iload_n (pc' := 1493) 3 rfl D_law_66.2.1.2.1 rfl rfl) ?_
      refine z_s I (s_iconst (pc' := 1494) D_law_66.2.1.2.2 rfl) ?_
      refine z_s I (s_iadd (pc' := 1495) D_law_66.2.2.1.1 rfl) ?_
      refine z_sld (pc' := 1496) IL hm hxs (inR_w32 _) D_law_66.2.2.1.2 rfl (fun c471 => ?_)
      refine z_s I (s_raload_n (pc' := 1497) 0 rfl D_law_66.2.2.2.1 rfl rfl) ?_
      refine z_s I (s_iload_n (pc' := 1498) 3 rfl D_law_66.2.2.2.2 rfl rfl) ?_
      refine z_s I (s_iconst (pc' := 1499) D_law_67.1.1.1.1 rfl) ?_
      refine z_s I (s_iadd (pc' := 1500) D_law_67.1.1.1.2 rfl) ?_
      refine z_sld (pc' := 1501) IL hm hxs (inR_w32 _) D_law_67.1.1.2.1 rfl (fun c472 => ?_)
      refine z_b1 (fun r475 q474 => ?_)
      refine z_callV (pc' := 1504) I mv_Cb_judge ml_law_167 (fun ad => [vI (xs (w32 (x3 + 1))), vI (xs (w32 (x3 + 2))), vI (xs (w32 (x3 + 3)))]) ⟨Nat.le_of_ble_eq_true rfl, Nat.le_of_ble_eq_true rfl⟩ ar1 (fun hh => c_Cb_judge hw ar1 (hxr _) (hxr _) (hxr _) hh q474) rfl rfl (Nat.le_of_ble_eq_true rfl) D_law_67.1.1.2.2 rfl (fun f473 => ?_)
      refine z_s I (s_aload_n (pc' := 1505) 2 rfl D_law_67.1.2.1.1 rfl rfl) ?_
      refine z_s I (s_raload_n (pc' := 1506) 0 rfl D_law_67.1.2.1.2 rfl rfl) ?_
      refine z_s I (s_iload_n (pc' := 1507) 3 rfl D_law_67.1.2.2.1 rfl rfl) ?_
      refine z_s I (s_iconst (pc' := 1508) D_law_67.1.2.2.2 rfl) ?_
      refine z_s I (s_iadd (pc' := 1509) D_law_67.2.1.1.1 rfl) ?_
      refine z_sld (pc' := 1510) IL hm hxs (inR_w32 _) D_law_67.2.1.1.2 rfl (fun c476 => ?_)
      refine z_s I (s_raload_n (pc' := 1511) 0 rfl D_law_67.2.1.2.1 rfl rfl) ?_
      refine z_s I (s_iload_n (pc' := 1512) 3 rfl D_law_67.2.1.2.2 rfl rfl) ?_
      refine z_s I (s_iconst (pc' := 1513) D_law_67.2.2.1.1 rfl) ?_
      refine z_s I (s_iadd (pc' := 1514) D_law_67.2.2.1.2 rfl) ?_
      refine z_sld (pc' := 1515) IL hm hxs (inR_w32 _) D_law_67.2.2.2.1 rfl (fun c477 => ?_)
      refine z_s I (s_raload_n (pc' := 1516) 0 rfl D_law_67.2.2.2.2 rfl rfl) ?_
      refine z_s I (s_iload_n (pc' := 1517) 3 rfl D_law_68.1.1.1.1 rfl rfl) ?_
      refine z_s I (s_iconst (pc' := 1518) D_law_68.1.1.1.2 rfl) ?_
      refine z_s I (s_iadd (pc' := 1519) D_law_68.1.1.2.1 rfl) ?_
      refine z_sld (pc' := 1520) IL hm hxs (inR_w32 _) D_law_68.1.1.2.2 rfl (fun c478 => ?_)
      refine z_b1 (fun r481 q480 => ?_)
      refine z_callV (pc' := 1523) I mv_Md_judge ml_law_170 (fun ad => [vI (xs (w32 (x3 + 1))), vI (xs (w32 (x3 + 2))), vI (xs (w32 (x3 + 3)))]) ⟨Nat.le_of_ble_eq_true rfl, Nat.le_of_ble_eq_true rfl⟩ ar2 (fun hh => c_Md_judge hw ar2 (hxr _) (hxr _) (hxr _) hh q480) rfl rfl (Nat.le_of_ble_eq_true rfl) D_law_68.1.2.1.1 rfl (fun f479 => ?_)
      refine z_icmp_eq (tgt := 1790) (pc' := 1526) I f473 f479 D_law_68.1.2.1.2 rfl rfl (fun c482 => ?_) (fun c482 => ?_)
      · refine z_s I (s_iinc (pc' := 1793) (lv' := [(3, vI (w32 (x3 + 6))), (0, .ref b), (1, vR ad r1), (2, vR ad r2)]) (n := 3) rfl D_law_81.2.2.2.1 (by decide) rfl rfl) ?_
        refine z_s I (s_goto (tgt := 18) D_law_81.2.2.2.2 rfl) ?_
        refine z_s I (s_lv (lv' := [(0, .ref b), (1, vR ad r1), (2, vR ad r2), (3, vI (w32 (x3 + 6)))]) [1, 2, 3, 0] rfl) ?_
        exact z_end (fun g => hin1_1 _ g (inR_w32 _))
      · refine z_s I (s_iconst (pc' := 1527) D_law_68.1.2.2.1 rfl) ?_
        exact z_ret (w := some (vI 0)) I (fun g => gk1 _ _ g bz0) ⟨_, bz0, rfl⟩ D_law_68.1.2.2.2 rfl
    have J1528 : ∀ (x3 : Int) (ax3 : inR x3) (h : HP), Z Y (m_law_J1528 r1 r2 x3 xs m h) G1 h 1528 [(0, .ref b), (1, vR ad r1), (2, vR ad r2), (3, vI x3)] [] := by
      intro x3 ax3 h
      unfold m_law_J1528
      refine z_s I (s_aload_n (pc' := 1529) 1 rfl D_law_68.2.1.1.1 rfl rfl) ?_
      refine z_b2 (fun r485 h486 q484 => ?_)
      refine z_callV (pc' := 1532) I mv_Cb_image ml_law_171 (fun ad => []) ⟨Nat.le_of_ble_eq_true rfl, Nat.le_of_ble_eq_true rfl⟩ ar1 (fun hh => c_Cb_image hw ar1 hh q484) rfl rfl (Nat.le_of_ble_eq_true rfl) D_law_68.2.1.1.2 rfl (fun f483 => ?_)
      refine z_s I (s_aload_n (pc' := 1533) 2 rfl D_law_68.2.1.2.1 rfl rfl) ?_
      refine z_b2 (fun r489 h490 q488 => ?_)
      refine z_callV (pc' := 1536) I mv_Md_image ml_law_174 (fun ad => []) ⟨Nat.le_of_ble_eq_true rfl, Nat.le_of_ble_eq_true rfl⟩ ar2 (fun hh => c_Md_image hw ar2 hh q488) rfl rfl (Nat.le_of_ble_eq_true rfl) D_law_68.2.1.2.2 rfl (fun f487 => ?_)
      refine z_icmp_eq (tgt := 1790) (pc' := 1539) I f483 f487 D_law_68.2.2.1.1 rfl rfl (fun c491 => ?_) (fun c491 => ?_)
      · refine z_s I (s_iinc (pc' := 1793) (lv' := [(3, vI (w32 (x3 + 6))), (0, .ref b), (1, vR ad r1), (2, vR ad r2)]) (n := 3) rfl D_law_81.2.2.2.1 (by decide) rfl rfl) ?_
        refine z_s I (s_goto (tgt := 18) D_law_81.2.2.2.2 rfl) ?_
        refine z_s I (s_lv (lv' := [(0, .ref b), (1, vR ad r1), (2, vR ad r2), (3, vI (w32 (x3 + 6)))]) [1, 2, 3, 0] rfl) ?_
        exact z_end (fun g => hin1_1 _ g (inR_w32 _))
      · refine z_s I (s_iconst (pc' := 1540) D_law_68.2.2.1.2 rfl) ?_
        exact z_ret (w := some (vI 0)) I (fun g => gk1 _ _ g bz0) ⟨_, bz0, rfl⟩ D_law_68.2.2.2.1 rfl
    have J1541 : ∀ (x3 : Int) (ax3 : inR x3) (h : HP), Z Y (m_law_J1541 r1 r2 x3 xs m h) G1 h 1541 [(0, .ref b), (1, vR ad r1), (2, vR ad r2), (3, vI x3)] [] := by
      intro x3 ax3 h
      unfold m_law_J1541
      refine z_s I (s_aload_n (pc' := 1542) 1 rfl D_law_68.2.2.2.2 rfl rfl) ?_
      refine z_b2 (fun r494 h495 q493 => ?_)
      refine z_callV (pc' := 1545) I mv_Cb_undo ml_law_175 (fun ad => []) ⟨Nat.le_of_ble_eq_true rfl, Nat.le_of_ble_eq_true rfl⟩ ar1 (fun hh => c_Cb_undo hw ar1 hh q493) rfl rfl (Nat.le_of_ble_eq_true rfl) D_law_69.1.1.1.1 rfl (fun f492 => ?_)
      refine z_s I (s_aload_n (pc' := 1546) 2 rfl D_law_69.1.1.1.2 rfl rfl) ?_
      refine z_b2 (fun r498 h499 q497 => ?_)
      refine z_callV (pc' := 1549) I mv_Md_undo ml_law_178 (fun ad => []) ⟨Nat.le_of_ble_eq_true rfl, Nat.le_of_ble_eq_true rfl⟩ ar2 (fun hh => c_Md_undo hw ar2 hh q497) rfl rfl (Nat.le_of_ble_eq_true rfl) D_law_69.1.1.2.1 rfl (fun f496 => ?_)
      refine z_icmp_eq (tgt := 1790) (pc' := 1552) I f492 f496 D_law_69.1.1.2.2 rfl rfl (fun c500 => ?_) (fun c500 => ?_)
      · refine z_s I (s_iinc (pc' := 1793) (lv' := [(3, vI (w32 (x3 + 6))), (0, .ref b), (1, vR ad r1), (2, vR ad r2)]) (n := 3) rfl D_law_81.2.2.2.1 (by decide) rfl rfl) ?_
        refine z_s I (s_goto (tgt := 18) D_law_81.2.2.2.2 rfl) ?_
        refine z_s I (s_lv (lv' := [(0, .ref b), (1, vR ad r1), (2, vR ad r2), (3, vI (w32 (x3 + 6)))]) [1, 2, 3, 0] rfl) ?_
        exact z_end (fun g => hin1_1 _ g (inR_w32 _))
      · refine z_s I (s_iconst (pc' := 1553) D_law_69.1.2.1.1 rfl) ?_
        exact z_ret (w := some (vI 0)) I (fun g => gk1 _ _ g bz0) ⟨_, bz0, rfl⟩ D_law_69.1.2.1.2 rfl
    have J1554 : ∀ (x3 : Int) (ax3 : inR x3) (h : HP), Z Y (m_law_J1554 r1 r2 x3 xs m h) G1 h 1554 [(0, .ref b), (1, vR ad r1), (2, vR ad r2), (3, vI x3)] [] := by
      intro x3 ax3 h
      unfold m_law_J1554
      refine z_s I (s_aload_n (pc' := 1555) 1 rfl D_law_69.1.2.2.1 rfl rfl) ?_
      refine z_s I (s_raload_n (pc' := 1556) 0 rfl D_law_69.1.2.2.2 rfl rfl) ?_
      refine z_s I (s_iload_n (pc' := 1557) 3 rfl D_law_69.2.1.1.1 rfl rfl) ?_
      refine z_s I (s_iconst (pc' := 1558) D_law_69.2.1.1.2 rfl) ?_
      refine z_s I (s_iadd (pc' := 1559) D_law_69.2.1.2.1 rfl) ?_
      refine z_sld (pc' := 1560) IL hm hxs (inR_w32 _) D_law_69.2.1.2.2 rfl (fun c501 => ?_)
      refine z_b1 (fun r504 q503 => ?_)
      refine z_callV (pc' := 1563) I mv_Cb_count ml_law_179 (fun ad => [vI (xs (w32 (x3 + 1)))]) ⟨Nat.le_of_ble_eq_true rfl, Nat.le_of_ble_eq_true rfl⟩ ar1 (fun hh => c_Cb_count hw ar1 (hxr _) hh q503) rfl rfl (Nat.le_of_ble_eq_true rfl) D_law_69.2.2.1.1 rfl (fun f502 => ?_)
      refine z_s I (s_aload_n (pc' := 1564) 2 rfl D_law_69.2.2.1.2 rfl rfl) ?_
      refine z_s I (s_raload_n (pc' := 1565) 0 rfl D_law_69.2.2.2.1 rfl rfl) ?_
      refine z_s I (s_iload_n (pc' := 1566) 3 rfl D_law_69.2.2.2.2 rfl rfl) ?_
      refine z_s I (s_iconst (pc' := 1567) D_law_70.1.1.1.1 rfl) ?_
      refine z_s I (s_iadd (pc' := 1568) D_law_70.1.1.1.2 rfl) ?_
      refine z_sld (pc' := 1569) IL hm hxs (inR_w32 _) D_law_70.1.1.2.1 rfl (fun c505 => ?_)
      refine z_b1 (fun r508 q507 => ?_)
      refine z_callV (pc' := 1572) I mv_Md_count ml_law_182 (fun ad => [vI (xs (w32 (x3 + 1)))]) ⟨Nat.le_of_ble_eq_true rfl, Nat.le_of_ble_eq_true rfl⟩ ar2 (fun hh => c_Md_count hw ar2 (hxr _) hh q507) rfl rfl (Nat.le_of_ble_eq_true rfl) D_law_70.1.1.2.2 rfl (fun f506 => ?_)
      refine z_icmp_eq (tgt := 1790) (pc' := 1575) I f502 f506 D_law_70.1.2.1.1 rfl rfl (fun c509 => ?_) (fun c509 => ?_)
      · refine z_s I (s_iinc (pc' := 1793) (lv' := [(3, vI (w32 (x3 + 6))), (0, .ref b), (1, vR ad r1), (2, vR ad r2)]) (n := 3) rfl D_law_81.2.2.2.1 (by decide) rfl rfl) ?_
        refine z_s I (s_goto (tgt := 18) D_law_81.2.2.2.2 rfl) ?_
        refine z_s I (s_lv (lv' := [(0, .ref b), (1, vR ad r1), (2, vR ad r2), (3, vI (w32 (x3 + 6)))]) [1, 2, 3, 0] rfl) ?_
        exact z_end (fun g => hin1_1 _ g (inR_w32 _))
      · refine z_s I (s_iconst (pc' := 1576) D_law_70.1.2.1.2 rfl) ?_
        exact z_ret (w := some (vI 0)) I (fun g => gk1 _ _ g bz0) ⟨_, bz0, rfl⟩ D_law_70.1.2.2.1 rfl
    have J1577 : ∀ (x3 : Int) (ax3 : inR x3) (h : HP), Z Y (m_law_J1577 r1 r2 x3 xs m h) G1 h 1577 [(0, .ref b), (1, vR ad r1), (2, vR ad r2), (3, vI x3)] [] := by
      intro x3 ax3 h
      unfold m_law_J1577
      refine z_s I (s_aload_n (pc' := 1578) 1 rfl D_law_70.1.2.2.2 rfl rfl) ?_
      refine z_s I (s_raload_n (pc' := 1579) 0 rfl D_law_70.2.1.1.1 rfl rfl) ?_
      refine z_s I (s_iload_n (pc' := 1580) 3 rfl D_law_70.2.1.1.2 rfl rfl) ?_
      refine z_s I (s_iconst (pc' := 1581) D_law_70.2.1.2.1 rfl) ?_
      refine z_s I (s_iadd (pc' := 1582) D_law_70.2.1.2.2 rfl) ?_
      refine z_sld (pc' := 1583) IL hm hxs (inR_w32 _) D_law_70.2.2.1.1 rfl (fun c510 => ?_)
      refine z_s I (s_raload_n (pc' := 1584) 0 rfl D_law_70.2.2.1.2 rfl rfl) ?_
      refine z_s I (s_iload_n (pc' := 1585) 3 rfl D_law_70.2.2.2.1 rfl rfl) ?_
      refine z_s I (s_iconst (pc' := 1586) D_law_70.2.2.2.2 rfl) ?_
      refine z_s I (s_iadd (pc' := 1587) D_law_71.1.1.1.1 rfl) ?_
      refine z_sld (pc' := 1588) IL hm hxs (inR_w32 _) D_law_71.1.1.1.2 rfl (fun c511 => ?_)
      refine z_s I (s_raload_n (pc' := 1589) 0 rfl D_law_71.1.1.2.1 rfl rfl) ?_
      refine z_s I (s_iload_n (pc' := 1590) 3 rfl D_law_71.1.1.2.2 rfl rfl) ?_
      refine z_s I (s_iconst (pc' := 1591) D_law_71.1.2.1.1 rfl) ?_
      refine z_s I (s_iadd (pc' := 1592) D_law_71.1.2.1.2 rfl) ?_
      refine z_sld (pc' := 1593) IL hm hxs (inR_w32 _) D_law_71.1.2.2.1 rfl (fun c512 => ?_)
      refine z_b2 (fun r515 h516 q514 => ?_)
      refine z_callV (pc' := 1596) I mv_Cb_tape ml_law_183 (fun ad => [vI (xs (w32 (x3 + 1))), vI (xs (w32 (x3 + 2))), vI (xs (w32 (x3 + 3)))]) ⟨Nat.le_of_ble_eq_true rfl, Nat.le_of_ble_eq_true rfl⟩ ar1 (fun hh => c_Cb_tape hw ar1 (hxr _) (hxr _) (hxr _) hh q514) rfl rfl (Nat.le_of_ble_eq_true rfl) D_law_71.1.2.2.2 rfl (fun f513 => ?_)
      refine z_s I (s_aload_n (pc' := 1597) 2 rfl D_law_71.2.1.1.1 rfl rfl) ?_
      refine z_s I (s_raload_n (pc' := 1598) 0 rfl D_law_71.2.1.1.2 rfl rfl) ?_
      refine z_s I (s_iload_n (pc' := 1599) 3 rfl D_law_71.2.1.2.1 rfl rfl) ?_
      refine z_s I (s_iconst (pc' := 1600) D_law_71.2.1.2.2 rfl) ?_
      refine z_s I (s_iadd (pc' := 1601) D_law_71.2.2.1.1 rfl) ?_
      refine z_sld (pc' := 1602) IL hm hxs (inR_w32 _) D_law_71.2.2.1.2 rfl (fun c517 => ?_)
      refine z_s I (s_raload_n (pc' := 1603) 0 rfl D_law_71.2.2.2.1 rfl rfl) ?_
      refine z_s I (s_iload_n (pc' := 1604) 3 rfl D_law_71.2.2.2.2 rfl rfl) ?_
      refine z_s I (s_iconst (pc' := 1605) D_law_72.1.1.1.1 rfl) ?_
      refine z_s I (s_iadd (pc' := 1606) D_law_72.1.1.1.2 rfl) ?_
      refine z_sld (pc' := 1607) IL hm hxs (inR_w32 _) D_law_72.1.1.2.1 rfl (fun c518 => ?_)
      refine z_s I (s_raload_n (pc' := 1608) 0 rfl D_law_72.1.1.2.2 rfl rfl) ?_
      refine z_s I (s_iload_n (pc' := 1609) 3 rfl D_law_72.1.2.1.1 rfl rfl) ?_
      refine z_s I (s_iconst (pc' := 1610) D_law_72.1.2.1.2 rfl) ?_
      refine z_s I (s_iadd (pc' := 1611) D_law_72.1.2.2.1 rfl) ?_
      refine z_sld (pc' := 1612) IL hm hxs (inR_w32 _) D_law_72.1.2.2.2 rfl (fun c519 => ?_)
      refine z_b2 (fun r522 h523 q521 => ?_)
      refine z_callV (pc' := 1615) I mv_Md_tape ml_law_186 (fun ad => [vI (xs (w32 (x3 + 1))), vI (xs (w32 (x3 + 2))), vI (xs (w32 (x3 + 3)))]) ⟨Nat.le_of_ble_eq_true rfl, Nat.le_of_ble_eq_true rfl⟩ ar2 (fun hh => c_Md_tape hw ar2 (hxr _) (hxr _) (hxr _) hh q521) rfl rfl (Nat.le_of_ble_eq_true rfl) D_law_72.2.1.1.1 rfl (fun f520 => ?_)
      refine z_icmp_eq (tgt := 1790) (pc' := 1618) I f513 f520 D_law_72.2.1.1.2 rfl rfl (fun c524 => ?_) (fun c524 => ?_)
      · refine z_s I (s_iinc (pc' := 1793) (lv' := [(3, vI (w32 (x3 + 6))), (0, .ref b), (1, vR ad r1), (2, vR ad r2)]) (n := 3) rfl D_law_81.2.2.2.1 (by decide) rfl rfl) ?_
        refine z_s I (s_goto (tgt := 18) D_law_81.2.2.2.2 rfl) ?_
        refine z_s I (s_lv (lv' := [(0, .ref b), (1, vR ad r1), (2, vR ad r2), (3, vI (w32 (x3 + 6)))]) [1, 2, 3, 0] rfl) ?_
        exact z_end (fun g => hin1_1 _ g (inR_w32 _))
      · refine z_s I (s_iconst (pc' := 1619) D_law_72.2.1.2.1 rfl) ?_
        exact z_ret (w := some (vI 0)) I (fun g => gk1 _ _ g bz0) ⟨_, bz0, rfl⟩ D_law_72.2.1.2.2 rfl
    have J1620 : ∀ (x3 : Int) (ax3 : inR x3) (h : HP), Z Y (m_law_J1620 r1 r2 x3 xs m h) G1 h 1620 [(0, .ref b), (1, vR ad r1), (2, vR ad r2), (3, vI x3)] [] := by
      intro x3 ax3 h
      unfold m_law_J1620
      refine z_s I (s_aload_n (pc' := 1621) 1 rfl D_law_72.2.2.1.1 rfl rfl) ?_
      refine z_s I (s_raload_n (pc' := 1622) 0 rfl D_law_72.2.2.1.2 rfl rfl) ?_
      refine z_s I (s_iload_n (pc' := 1623) 3 rfl D_law_72.2.2.2.1 rfl rfl) ?_
      refine z_s I (s_iconst (pc' := 1624) D_law_72.2.2.2.2 rfl) ?_
      refine z_s I (s_iadd (pc' := 1625) D_law_73.1.1.1.1 rfl) ?_
      refine z_sld (pc' := 1626) IL hm hxs (inR_w32 _) D_law_73.1.1.1.2 rfl (fun c525 => ?_)
      refine z_s I (s_raload_n (pc' := 1627) 0 rfl D_law_73.1.1.2.1 rfl rfl) ?_
      refine z_s I (s_iload_n (pc' := 1628) 3 rfl D_law_73.1.1.2.2 rfl rfl) ?_
      refine z_s I (s_iconst (pc' := 1629) D_law_73.1.2.1.1 rfl) ?_
      refine z_s I (s_iadd (pc' := 1630) D_law_73.1.2.1.2 rfl) ?_
      refine z_sld (pc' := 1631) IL hm hxs (inR_w32 _) D_law_73.1.2.2.1 rfl (fun c526 => ?_)
      refine z_s I (s_raload_n (pc' := 1632) 0 rfl D_law_73.1.2.2.2 rfl rfl) ?_
      refine z_s I (s_iload_n (pc' := 1633) 3 rfl D_law_73.2.1.1.1 rfl rfl) ?_
      refine z_s I (s_iconst (pc' := 1634) D_law_73.2.1.1.2 rfl) ?_
      refine z_s I (s_iadd (pc' := 1635) D_law_73.2.1.2.1 rfl) ?_
      refine z_sld (pc' := 1636) IL hm hxs (inR_w32 _) D_law_73.2.1.2.2 rfl (fun c527 => ?_)
      refine z_s I (s_i2l (pc' := 1637) (hxr _) D_law_73.2.2.1.1 rfl) ?_
      refine z_s I (s_bipush (pc' := 1639) D_law_73.2.2.1.2 rfl rfl) ?_
      refine z_s I (s_lshl (pc' := 1640) D_law_73.2.2.2.1 rfl) ?_
      refine z_s I (s_raload_n (pc' := 1641) 0 rfl D_law_73.2.2.2.2 rfl rfl) ?_
      refine z_s I (s_iload_n (pc' := 1642) 3 rfl D_law_74.1.1.1.1 rfl rfl) ?_
      refine z_s I (s_iconst (pc' := 1643) D_law_74.1.1.1.2 rfl) ?_
      refine z_s I (s_iadd (pc' := 1644) D_law_74.1.1.2.1 rfl) ?_
      refine z_sld (pc' := 1645) IL hm hxs (inR_w32 _) D_law_74.1.1.2.2 rfl (fun c528 => ?_)
      refine z_s I (s_i2l (pc' := 1646) (hxr _) D_law_74.1.2.1.1 rfl) ?_
      refine z_ldc2 (pc' := 1649) (x := 4294967295) I cl_law_187 (by decide +kernel) D_law_74.1.2.1.2 rfl ?_
      refine z_s I (s_land (pc' := 1650) D_law_74.1.2.2.1 rfl) ?_
      refine z_s I (s_lor (pc' := 1651) D_law_74.1.2.2.2 rfl) ?_
      refine z_b2 (fun r531 h532 q530 => ?_)
      refine z_callV (pc' := 1654) I mv_Cb_item ml_law_189 (fun ad => [vI (xs (w32 (x3 + 1))), vI (xs (w32 (x3 + 2))), vL (lOr (lShl (xs (w32 (x3 + 3))) 32) (lAnd (xs (w32 (x3 + 4))) 4294967295))]) ⟨Nat.le_of_ble_eq_true rfl, Nat.le_of_ble_eq_true rfl⟩ ar1 (fun hh => c_Cb_item hw ar1 (hxr _) (hxr _) (r_lOr _ _) hh q530) rfl rfl (Nat.le_of_ble_eq_true rfl) D_law_74.2.1.1.1 rfl (fun f529 => ?_)
      refine z_s I (s_aload_n (pc' := 1655) 2 rfl D_law_74.2.1.1.2 rfl rfl) ?_
      refine z_s I (s_raload_n (pc' := 1656) 0 rfl D_law_74.2.1.2.1 rfl rfl) ?_
      refine z_s I (s_iload_n (pc' := 1657) 3 rfl D_law_74.2.1.2.2 rfl rfl) ?_
      refine z_s I (s_iconst (pc' := 1658) D_law_74.2.2.1.1 rfl) ?_
      refine z_s I (s_iadd (pc' := 1659) D_law_74.2.2.1.2 rfl) ?_
      refine z_sld (pc' := 1660) IL hm hxs (inR_w32 _) D_law_74.2.2.2.1 rfl (fun c533 => ?_)
      refine z_s I (s_raload_n (pc' := 1661) 0 rfl D_law_74.2.2.2.2 rfl rfl) ?_
      refine z_s I (s_iload_n (pc' := 1662) 3 rfl D_law_75.1.1.1.1 rfl rfl) ?_
      refine z_s I (s_iconst (pc' := 1663) D_law_75.1.1.1.2 rfl) ?_
      refine z_s I (s_iadd (pc' := 1664) D_law_75.1.1.2.1 rfl) ?_
      refine z_sld (pc' := 1665) IL hm hxs (inR_w32 _) D_law_75.1.1.2.2 rfl (fun c534 => ?_)
      refine z_s I (s_raload_n (pc' := 1666) 0 rfl D_law_75.1.2.1.1 rfl rfl) ?_
      refine z_s I (s_iload_n (pc' := 1667) 3 rfl D_law_75.1.2.1.2 rfl rfl) ?_
      refine z_s I (s_iconst (pc' := 1668) D_law_75.1.2.2.1 rfl) ?_
      refine z_s I (s_iadd (pc' := 1669) D_law_75.1.2.2.2 rfl) ?_
      refine z_sld (pc' := 1670) IL hm hxs (inR_w32 _) D_law_75.2.1.1.1 rfl (fun c535 => ?_)
      refine z_s I (s_i2l (pc' := 1671) (hxr _) D_law_75.2.1.1.2 rfl) ?_
      refine z_s I (s_bipush (pc' := 1673) D_law_75.2.1.2.1 rfl rfl) ?_
      refine z_s I (s_lshl (pc' := 1674) D_law_75.2.1.2.2 rfl) ?_
      refine z_s I (s_raload_n (pc' := 1675) 0 rfl D_law_75.2.2.1.1 rfl rfl) ?_
      refine z_s I (s_iload_n (pc' := 1676) 3 rfl D_law_75.2.2.1.2 rfl rfl) ?_
      refine z_s I (s_iconst (pc' := 1677) D_law_75.2.2.2.1 rfl) ?_
      refine z_s I (s_iadd (pc' := 1678) D_law_75.2.2.2.2 rfl) ?_
      refine z_sld (pc' := 1679) IL hm hxs (inR_w32 _) D_law_76.1.1.1.1 rfl (fun c536 => ?_)
      refine z_s I (s_i2l (pc' := 1680) (hxr _) D_law_76.1.1.1.2 rfl) ?_
      refine z_ldc2 (pc' := 1683) (x := 4294967295) I cl_law_187 (by decide +kernel) D_law_76.1.1.2.1 rfl ?_
      refine z_s I (s_land (pc' := 1684) D_law_76.1.1.2.2 rfl) ?_
      refine z_s I (s_lor (pc' := 1685) D_law_76.1.2.1.1 rfl) ?_
      refine z_b2 (fun r539 h540 q538 => ?_)
      refine z_callV (pc' := 1688) I mv_Md_item ml_law_193 (fun ad => [vI (xs (w32 (x3 + 1))), vI (xs (w32 (x3 + 2))), vL (lOr (lShl (xs (w32 (x3 + 3))) 32) (lAnd (xs (w32 (x3 + 4))) 4294967295))]) ⟨Nat.le_of_ble_eq_true rfl, Nat.le_of_ble_eq_true rfl⟩ ar2 (fun hh => c_Md_item hw ar2 (hxr _) (hxr _) (r_lOr _ _) hh q538) rfl rfl (Nat.le_of_ble_eq_true rfl) D_law_76.1.2.1.2 rfl (fun f537 => ?_)
      refine z_icmp_eq (tgt := 1790) (pc' := 1691) I f529 f537 D_law_76.1.2.2.1 rfl rfl (fun c541 => ?_) (fun c541 => ?_)
      · refine z_s I (s_iinc (pc' := 1793) (lv' := [(3, vI (w32 (x3 + 6))), (0, .ref b), (1, vR ad r1), (2, vR ad r2)]) (n := 3) rfl D_law_81.2.2.2.1 (by decide) rfl rfl) ?_
        refine z_s I (s_goto (tgt := 18) D_law_81.2.2.2.2 rfl) ?_
        refine z_s I (s_lv (lv' := [(0, .ref b), (1, vR ad r1), (2, vR ad r2), (3, vI (w32 (x3 + 6)))]) [1, 2, 3, 0] rfl) ?_
        exact z_end (fun g => hin1_1 _ g (inR_w32 _))
      · refine z_s I (s_iconst (pc' := 1692) D_law_76.1.2.2.2 rfl) ?_
        exact z_ret (w := some (vI 0)) I (fun g => gk1 _ _ g bz0) ⟨_, bz0, rfl⟩ D_law_76.2.1.1.1 rfl
    have J1693 : ∀ (x3 : Int) (ax3 : inR x3) (h : HP), Z Y (m_law_J1693 r1 r2 x3 xs m h) G1 h 1693 [(0, .ref b), (1, vR ad r1), (2, vR ad r2), (3, vI x3)] [] := by
      intro x3 ax3 h
      unfold m_law_J1693
      refine z_s I (s_aload_n (pc' := 1694) 1 rfl D_law_76.2.1.1.2 rfl rfl) ?_
      refine z_s I (s_raload_n (pc' := 1695) 0 rfl D_law_76.2.1.2.1 rfl rfl) ?_
      refine z_s I (s_iload_n (pc' := 1696) 3 rfl D_law_76.2.1.2.2 rfl rfl) ?_
      refine z_s I (s_iconst (pc' := 1697) D_law_76.2.2.1.1 rfl) ?_
      refine z_s I (s_iadd (pc' := 1698) D_law_76.2.2.1.2 rfl) ?_
      refine z_sld (pc' := 1699) IL hm hxs (inR_w32 _) D_law_76.2.2.2.1 rfl (fun c542 => ?_)
      refine z_s I (s_raload_n (pc' := 1700) 0 rfl D_law_76.2.2.2.2 rfl rfl) ?_
      refine z_s I (s_iload_n (pc' := 1701) 3 rfl D_law_77.1.1.1.1 rfl rfl) ?_
      refine z_s I (s_iconst (pc' := 1702) D_law_77.1.1.1.2 rfl) ?_
      refine z_s I (s_iadd (pc' := 1703) D_law_77.1.1.2.1 rfl) ?_
      refine z_sld (pc' := 1704) IL hm hxs (inR_w32 _) D_law_77.1.1.2.2 rfl (fun c543 => ?_)
      refine z_b1 (fun r546 q545 => ?_)
      refine z_callV (pc' := 1707) I mv_Cb_peek ml_law_194 (fun ad => [vI (xs (w32 (x3 + 1))), vI (xs (w32 (x3 + 2)))]) ⟨Nat.le_of_ble_eq_true rfl, Nat.le_of_ble_eq_true rfl⟩ ar1 (fun hh => c_Cb_peek hw ar1 (hxr _) (hxr _) hh q545) rfl rfl (Nat.le_of_ble_eq_true rfl) D_law_77.1.2.1.1 rfl (fun f544 => ?_)
      refine z_s I (s_aload_n (pc' := 1708) 2 rfl D_law_77.1.2.1.2 rfl rfl) ?_
      refine z_s I (s_raload_n (pc' := 1709) 0 rfl D_law_77.1.2.2.1 rfl rfl) ?_
      refine z_s I (s_iload_n (pc' := 1710) 3 rfl D_law_77.1.2.2.2 rfl rfl) ?_
      refine z_s I (s_iconst (pc' := 1711) D_law_77.2.1.1.1 rfl) ?_
      refine z_s I (s_iadd (pc' := 1712) D_law_77.2.1.1.2 rfl) ?_
      refine z_sld (pc' := 1713) IL hm hxs (inR_w32 _) D_law_77.2.1.2.1 rfl (fun c547 => ?_)
      refine z_s I (s_raload_n (pc' := 1714) 0 rfl D_law_77.2.1.2.2 rfl rfl) ?_
      refine z_s I (s_iload_n (pc' := 1715) 3 rfl D_law_77.2.2.1.1 rfl rfl) ?_
      refine z_s I (s_iconst (pc' := 1716) D_law_77.2.2.1.2 rfl) ?_
      refine z_s I (s_iadd (pc' := 1717) D_law_77.2.2.2.1 rfl) ?_
      refine z_sld (pc' := 1718) IL hm hxs (inR_w32 _) D_law_77.2.2.2.2 rfl (fun c548 => ?_)
      refine z_b1 (fun r551 q550 => ?_)
      refine z_callV (pc' := 1721) I mv_Md_peek ml_law_197 (fun ad => [vI (xs (w32 (x3 + 1))), vI (xs (w32 (x3 + 2)))]) ⟨Nat.le_of_ble_eq_true rfl, Nat.le_of_ble_eq_true rfl⟩ ar2 (fun hh => c_Md_peek hw ar2 (hxr _) (hxr _) hh q550) rfl rfl (Nat.le_of_ble_eq_true rfl) D_law_78.1.1.1.1 rfl (fun f549 => ?_)
      refine z_s I (s_lcmp (pc' := 1722) f544 f549 D_law_78.1.1.1.2 rfl) ?_
      refine z_if_eq (tgt := 1790) (pc' := 1725) I (inR_lCmp _ _) D_law_78.1.1.2.1 rfl rfl (fun c552 => ?_) (fun c552 => ?_)
      · refine z_s I (s_iinc (pc' := 1793) (lv' := [(3, vI (w32 (x3 + 6))), (0, .ref b), (1, vR ad r1), (2, vR ad r2)]) (n := 3) rfl D_law_81.2.2.2.1 (by decide) rfl rfl) ?_
        refine z_s I (s_goto (tgt := 18) D_law_81.2.2.2.2 rfl) ?_
        refine z_s I (s_lv (lv' := [(0, .ref b), (1, vR ad r1), (2, vR ad r2), (3, vI (w32 (x3 + 6)))]) [1, 2, 3, 0] rfl) ?_
        exact z_end (fun g => hin1_1 _ g (inR_w32 _))
      · refine z_s I (s_iconst (pc' := 1726) D_law_78.1.1.2.2 rfl) ?_
        exact z_ret (w := some (vI 0)) I (fun g => gk1 _ _ g bz0) ⟨_, bz0, rfl⟩ D_law_78.1.2.1.1 rfl
    have J1727 : ∀ (x3 : Int) (ax3 : inR x3) (h : HP), Z Y (m_law_J1727 r1 r2 x3 xs m h) G1 h 1727 [(0, .ref b), (1, vR ad r1), (2, vR ad r2), (3, vI x3)] [] := by
      intro x3 ax3 h
      unfold m_law_J1727
      refine z_s I (s_aload_n (pc' := 1728) 1 rfl D_law_78.1.2.1.2 rfl rfl) ?_
      refine z_s I (s_raload_n (pc' := 1729) 0 rfl D_law_78.1.2.2.1 rfl rfl) ?_
      refine z_s I (s_iload_n (pc' := 1730) 3 rfl D_law_78.1.2.2.2 rfl rfl) ?_
      refine z_s I (s_iconst (pc' := 1731) D_law_78.2.1.1.1 rfl) ?_
      refine z_s I (s_iadd (pc' := 1732) D_law_78.2.1.1.2 rfl) ?_
      refine z_sld (pc' := 1733) IL hm hxs (inR_w32 _) D_law_78.2.1.2.1 rfl (fun c553 => ?_)
      refine z_s I (s_raload_n (pc' := 1734) 0 rfl D_law_78.2.1.2.2 rfl rfl) ?_
      refine z_s I (s_iload_n (pc' := 1735) 3 rfl D_law_78.2.2.1.1 rfl rfl) ?_
      refine z_s I (s_iconst (pc' := 1736) D_law_78.2.2.1.2 rfl) ?_
      refine z_s I (s_iadd (pc' := 1737) D_law_78.2.2.2.1 rfl) ?_
      refine z_sld (pc' := 1738) IL hm hxs (inR_w32 _) D_law_78.2.2.2.2 rfl (fun c554 => ?_)
      refine z_s I (s_raload_n (pc' := 1739) 0 rfl D_law_79.1.1.1.1 rfl rfl) ?_
      refine z_s I (s_iload_n (pc' := 1740) 3 rfl D_law_79.1.1.1.2 rfl rfl) ?_
      refine z_s I (s_iconst (pc' := 1741) D_law_79.1.1.2.1 rfl) ?_
      refine z_s I (s_iadd (pc' := 1742) D_law_79.1.1.2.2 rfl) ?_
      refine z_sld (pc' := 1743) IL hm hxs (inR_w32 _) D_law_79.1.2.1.1 rfl (fun c555 => ?_)
      refine z_s I (s_raload_n (pc' := 1744) 0 rfl D_law_79.1.2.1.2 rfl rfl) ?_
      refine z_s I (s_iload_n (pc' := 1745) 3 rfl D_law_79.1.2.2.1 rfl rfl) ?_
      refine z_s I (s_iconst (pc' := 1746) D_law_79.1.2.2.2 rfl) ?_
      refine z_s I (s_iadd (pc' := 1747) D_law_79.2.1.1.1 rfl) ?_
      refine z_sld (pc' := 1748) IL hm hxs (inR_w32 _) D_law_79.2.1.1.2 rfl (fun c556 => ?_)
      refine z_s I (s_raload_n (pc' := 1749) 0 rfl D_law_79.2.1.2.1 rfl rfl) ?_
      refine z_s I (s_iload_n (pc' := 1750) 3 rfl D_law_79.2.1.2.2 rfl rfl) ?_
      refine z_s I (s_iconst (pc' := 1751) D_law_79.2.2.1.1 rfl) ?_
      refine z_s I (s_iadd (pc' := 1752) D_law_79.2.2.1.2 rfl) ?_
      refine z_sld (pc' := 1753) IL hm hxs (inR_w32 _) D_law_79.2.2.2.1 rfl (fun c557 => ?_)
      refine z_b2 (fun r560 h561 q559 => ?_)
      refine z_callV (pc' := 1756) I mv_Cb_shift ml_law_198 (fun ad => [vI (xs (w32 (x3 + 1))), vI (xs (w32 (x3 + 2))), vI (xs (w32 (x3 + 3))), vI (xs (w32 (x3 + 4))), vI (xs (w32 (x3 + 5)))]) ⟨Nat.le_of_ble_eq_true rfl, Nat.le_of_ble_eq_true rfl⟩ ar1 (fun hh => c_Cb_shift hw ar1 (hxr _) (hxr _) (hxr _) (hxr _) (hxr _) hh q559) rfl rfl (Nat.le_of_ble_eq_true rfl) D_law_79.2.2.2.2 rfl (fun f558 => ?_)
      refine z_s I (s_aload_n (pc' := 1757) 2 rfl D_law_80.1.1.1.1 rfl rfl) ?_
      refine z_s I (s_raload_n (pc' := 1758) 0 rfl D_law_80.1.1.1.2 rfl rfl) ?_
      refine z_s I (s_iload_n (pc' := 1759) 3 rfl D_law_80.1.1.2.1 rfl rfl) ?_
      refine z_s I (s_iconst (pc' := 1760) D_law_80.1.1.2.2 rfl) ?_
      refine z_s I (s_iadd (pc' := 1761) D_law_80.1.2.1.1 rfl) ?_
      refine z_sld (pc' := 1762) IL hm hxs (inR_w32 _) D_law_80.1.2.1.2 rfl (fun c562 => ?_)
      refine z_s I (s_raload_n (pc' := 1763) 0 rfl D_law_80.1.2.2.1 rfl rfl) ?_
      refine z_s I (s_iload_n (pc' := 1764) 3 rfl D_law_80.1.2.2.2 rfl rfl) ?_
      refine z_s I (s_iconst (pc' := 1765) D_law_80.2.1.1.1 rfl) ?_
      refine z_s I (s_iadd (pc' := 1766) D_law_80.2.1.1.2 rfl) ?_
      refine z_sld (pc' := 1767) IL hm hxs (inR_w32 _) D_law_80.2.1.2.1 rfl (fun c563 => ?_)
      refine z_s I (s_raload_n (pc' := 1768) 0 rfl D_law_80.2.1.2.2 rfl rfl) ?_
      refine z_s I (s_iload_n (pc' := 1769) 3 rfl D_law_80.2.2.1.1 rfl rfl) ?_
      refine z_s I (s_iconst (pc' := 1770) D_law_80.2.2.1.2 rfl) ?_
      refine z_s I (s_iadd (pc' := 1771) D_law_80.2.2.2.1 rfl) ?_
      refine z_sld (pc' := 1772) IL hm hxs (inR_w32 _) D_law_80.2.2.2.2 rfl (fun c564 => ?_)
      refine z_s I (s_raload_n (pc' := 1773) 0 rfl D_law_81.1.1.1.1 rfl rfl) ?_
      refine z_s I (s_iload_n (pc' := 1774) 3 rfl D_law_81.1.1.1.2 rfl rfl) ?_
      refine z_s I (s_iconst (pc' := 1775) D_law_81.1.1.2.1 rfl) ?_
      refine z_s I (s_iadd (pc' := 1776) D_law_81.1.1.2.2 rfl) ?_
      refine z_sld (pc' := 1777) IL hm hxs (inR_w32 _) D_law_81.1.2.1.1 rfl (fun c565 => ?_)
      refine z_s I (s_raload_n (pc' := 1778) 0 rfl D_law_81.1.2.1.2 rfl rfl) ?_
      refine z_s I (s_iload_n (pc' := 1779) 3 rfl D_law_81.1.2.2.1 rfl rfl) ?_
      refine z_s I (s_iconst (pc' := 1780) D_law_81.1.2.2.2 rfl) ?_
      refine z_s I (s_iadd (pc' := 1781) D_law_81.2.1.1.1 rfl) ?_
      refine z_sld (pc' := 1782) IL hm hxs (inR_w32 _) D_law_81.2.1.1.2 rfl (fun c566 => ?_)
      refine z_b2 (fun r569 h570 q568 => ?_)
      refine z_callV (pc' := 1785) I mv_Md_shift ml_law_202 (fun ad => [vI (xs (w32 (x3 + 1))), vI (xs (w32 (x3 + 2))), vI (xs (w32 (x3 + 3))), vI (xs (w32 (x3 + 4))), vI (xs (w32 (x3 + 5)))]) ⟨Nat.le_of_ble_eq_true rfl, Nat.le_of_ble_eq_true rfl⟩ ar2 (fun hh => c_Md_shift hw ar2 (hxr _) (hxr _) (hxr _) (hxr _) (hxr _) hh q568) rfl rfl (Nat.le_of_ble_eq_true rfl) D_law_81.2.1.2.1 rfl (fun f567 => ?_)
      refine z_icmp_eq (tgt := 1790) (pc' := 1788) I f558 f567 D_law_81.2.1.2.2 rfl rfl (fun c571 => ?_) (fun c571 => ?_)
      · refine z_s I (s_iinc (pc' := 1793) (lv' := [(3, vI (w32 (x3 + 6))), (0, .ref b), (1, vR ad r1), (2, vR ad r2)]) (n := 3) rfl D_law_81.2.2.2.1 (by decide) rfl rfl) ?_
        refine z_s I (s_goto (tgt := 18) D_law_81.2.2.2.2 rfl) ?_
        refine z_s I (s_lv (lv' := [(0, .ref b), (1, vR ad r1), (2, vR ad r2), (3, vI (w32 (x3 + 6)))]) [1, 2, 3, 0] rfl) ?_
        exact z_end (fun g => hin1_1 _ g (inR_w32 _))
      · refine z_s I (s_iconst (pc' := 1789) D_law_81.2.2.1.1 rfl) ?_
        exact z_ret (w := some (vI 0)) I (fun g => gk1 _ _ g bz0) ⟨_, bz0, rfl⟩ D_law_81.2.2.1.2 rfl
    show Z Y (m_law_L18b r1 r2 xs m x3 h) G1 h 18 [(0, .ref b), (1, vR ad r1), (2, vR ad r2), (3, vI x3)] []
    unfold m_law_L18b
    refine z_s I (s_iload_n (pc' := 19) 3 rfl D_law_0.2.1.2.1 rfl rfl) ?_
    refine z_s I (s_raload_n (pc' := 20) 0 rfl D_law_0.2.1.2.2 rfl rfl) ?_
    refine z_slen (pc' := 21) IL hm D_law_0.2.2.1.1 rfl ?_
    refine z_s I (s_bipush (pc' := 23) D_law_0.2.2.1.2 rfl rfl) ?_
    refine z_s I (s_isub (pc' := 24) D_law_0.2.2.2.1 rfl) ?_
    refine z_icmp_gt (tgt := 1796) (pc' := 27) I ax3 (inR_w32 _) D_law_0.2.2.2.2 rfl rfl (fun c572 => ?_) (fun c572 => ?_)
    · refine z_s I (s_iconst (pc' := 1797) D_law_82.1 rfl) ?_
      exact z_ret (w := some (vI 1)) I (fun g => gk1 _ _ g bz1) ⟨_, bz1, rfl⟩ D_law_82.2 rfl
    · refine z_s I (s_raload_n (pc' := 28) 0 rfl D_law_1.1.1.1.1 rfl rfl) ?_
      refine z_s I (s_iload_n (pc' := 29) 3 rfl D_law_1.1.1.1.2 rfl rfl) ?_
      refine z_sld (pc' := 30) IL hm hxs ax3 D_law_1.1.1.2.1 rfl (fun c573 => ?_)
      refine z_s I (s_bipush (pc' := 32) D_law_1.1.1.2.2 rfl rfl) ?_
      refine z_s I (s_iand (pc' := 33) D_law_1.1.2.1.1 rfl) ?_
      refine z_tin (tgt := 224) I (r_iAnd _ _) D_law_1.1.2.1.2 0 ⟨by decide, by decide⟩ rfl rfl (fun c574 => ?_) (fun c574 => ?_)
      · exact J224 _ ax3 _
      · skip
        refine z_tin (tgt := 247) I (r_iAnd _ _) D_law_1.1.2.1.2 1 ⟨by decide, by decide⟩ rfl rfl (fun c575 => ?_) (fun c575 => ?_)
        · exact J247 _ ax3 _
        · skip
          refine z_tin (tgt := 280) I (r_iAnd _ _) D_law_1.1.2.1.2 2 ⟨by decide, by decide⟩ rfl rfl (fun c576 => ?_) (fun c576 => ?_)
          · exact J280 _ ax3 _
          · skip
            refine z_tin (tgt := 313) I (r_iAnd _ _) D_law_1.1.2.1.2 3 ⟨by decide, by decide⟩ rfl rfl (fun c577 => ?_) (fun c577 => ?_)
            · exact J313 _ ax3 _
            · skip
              refine z_tin (tgt := 356) I (r_iAnd _ _) D_law_1.1.2.1.2 4 ⟨by decide, by decide⟩ rfl rfl (fun c578 => ?_) (fun c578 => ?_)
              · exact J356 _ ax3 _
              · skip
                refine z_tin (tgt := 369) I (r_iAnd _ _) D_law_1.1.2.1.2 5 ⟨by decide, by decide⟩ rfl rfl (fun c579 => ?_) (fun c579 => ?_)
                · exact J369 _ ax3 _
                · skip
                  refine z_tin (tgt := 412) I (r_iAnd _ _) D_law_1.1.2.1.2 6 ⟨by decide, by decide⟩ rfl rfl (fun c580 => ?_) (fun c580 => ?_)
                  · exact J412 _ ax3 _
                  · skip
                    refine z_tin (tgt := 455) I (r_iAnd _ _) D_law_1.1.2.1.2 7 ⟨by decide, by decide⟩ rfl rfl (fun c581 => ?_) (fun c581 => ?_)
                    · exact J455 _ ax3 _
                    · skip
                      refine z_tin (tgt := 478) I (r_iAnd _ _) D_law_1.1.2.1.2 8 ⟨by decide, by decide⟩ rfl rfl (fun c582 => ?_) (fun c582 => ?_)
                      · exact J478 _ ax3 _
                      · skip
                        refine z_tin (tgt := 491) I (r_iAnd _ _) D_law_1.1.2.1.2 9 ⟨by decide, by decide⟩ rfl rfl (fun c583 => ?_) (fun c583 => ?_)
                        · exact J491 _ ax3 _
                        · skip
                          refine z_tin (tgt := 524) I (r_iAnd _ _) D_law_1.1.2.1.2 10 ⟨by decide, by decide⟩ rfl rfl (fun c584 => ?_) (fun c584 => ?_)
                          · exact J524 _ ax3 _
                          · skip
                            refine z_tin (tgt := 557) I (r_iAnd _ _) D_law_1.1.2.1.2 11 ⟨by decide, by decide⟩ rfl rfl (fun c585 => ?_) (fun c585 => ?_)
                            · exact J557 _ ax3 _
                            · skip
                              refine z_tin (tgt := 590) I (r_iAnd _ _) D_law_1.1.2.1.2 12 ⟨by decide, by decide⟩ rfl rfl (fun c586 => ?_) (fun c586 => ?_)
                              · exact J590 _ ax3 _
                              · skip
                                refine z_tin (tgt := 623) I (r_iAnd _ _) D_law_1.1.2.1.2 13 ⟨by decide, by decide⟩ rfl rfl (fun c587 => ?_) (fun c587 => ?_)
                                · exact J623 _ ax3 _
                                · skip
                                  refine z_tin (tgt := 656) I (r_iAnd _ _) D_law_1.1.2.1.2 14 ⟨by decide, by decide⟩ rfl rfl (fun c588 => ?_) (fun c588 => ?_)
                                  · exact J656 _ ax3 _
                                  · skip
                                    refine z_tin (tgt := 709) I (r_iAnd _ _) D_law_1.1.2.1.2 15 ⟨by decide, by decide⟩ rfl rfl (fun c589 => ?_) (fun c589 => ?_)
                                    · exact J709 _ ax3 _
                                    · skip
                                      refine z_tin (tgt := 742) I (r_iAnd _ _) D_law_1.1.2.1.2 16 ⟨by decide, by decide⟩ rfl rfl (fun c590 => ?_) (fun c590 => ?_)
                                      · exact J742 _ ax3 _
                                      · skip
                                        refine z_tin (tgt := 796) I (r_iAnd _ _) D_law_1.1.2.1.2 17 ⟨by decide, by decide⟩ rfl rfl (fun c591 => ?_) (fun c591 => ?_)
                                        · exact J796 _ ax3 _
                                        · skip
                                          refine z_tin (tgt := 860) I (r_iAnd _ _) D_law_1.1.2.1.2 18 ⟨by decide, by decide⟩ rfl rfl (fun c592 => ?_) (fun c592 => ?_)
                                          · exact J860 _ ax3 _
                                          · skip
                                            refine z_tin (tgt := 893) I (r_iAnd _ _) D_law_1.1.2.1.2 19 ⟨by decide, by decide⟩ rfl rfl (fun c593 => ?_) (fun c593 => ?_)
                                            · exact J893 _ ax3 _
                                            · skip
                                              refine z_tin (tgt := 947) I (r_iAnd _ _) D_law_1.1.2.1.2 20 ⟨by decide, by decide⟩ rfl rfl (fun c594 => ?_) (fun c594 => ?_)
                                              · exact J947 _ ax3 _
                                              · skip
                                                refine z_tin (tgt := 980) I (r_iAnd _ _) D_law_1.1.2.1.2 21 ⟨by decide, by decide⟩ rfl rfl (fun c595 => ?_) (fun c595 => ?_)
                                                · exact J980 _ ax3 _
                                                · skip
                                                  refine z_tin (tgt := 1013) I (r_iAnd _ _) D_law_1.1.2.1.2 22 ⟨by decide, by decide⟩ rfl rfl (fun c596 => ?_) (fun c596 => ?_)
                                                  · exact J1013 _ ax3 _
                                                  · skip
                                                    refine z_tin (tgt := 1046) I (r_iAnd _ _) D_law_1.1.2.1.2 23 ⟨by decide, by decide⟩ rfl rfl (fun c597 => ?_) (fun c597 => ?_)
                                                    · exact J1046 _ ax3 _
                                                    · skip
                                                      refine z_tin (tgt := 1080) I (r_iAnd _ _) D_law_1.1.2.1.2 24 ⟨by decide, by decide⟩ rfl rfl (fun c598 => ?_) (fun c598 => ?_)
                                                      · exact J1080 _ ax3 _
                                                      · skip
                                                        refine z_tin (tgt := 1113) I (r_iAnd _ _) D_law_1.1.2.1.2 25 ⟨by decide, by decide⟩ rfl rfl (fun c599 => ?_) (fun c599 => ?_)
                                                        · exact J1113 _ ax3 _
                                                        · skip
                                                          refine z_tin (tgt := 1136) I (r_iAnd _ _) D_law_1.1.2.1.2 26 ⟨by decide, by decide⟩ rfl rfl (fun c600 => ?_) (fun c600 => ?_)
                                                          · exact J1136 _ ax3 _
                                                          · skip
                                                            refine z_tin (tgt := 1159) I (r_iAnd _ _) D_law_1.1.2.1.2 27 ⟨by decide, by decide⟩ rfl rfl (fun c601 => ?_) (fun c601 => ?_)
                                                            · exact J1159 _ ax3 _
                                                            · skip
                                                              refine z_tin (tgt := 1182) I (r_iAnd _ _) D_law_1.1.2.1.2 28 ⟨by decide, by decide⟩ rfl rfl (fun c602 => ?_) (fun c602 => ?_)
                                                              · exact J1182 _ ax3 _
                                                              · skip
                                                                refine z_tin (tgt := 1216) I (r_iAnd _ _) D_law_1.1.2.1.2 29 ⟨by decide, by decide⟩ rfl rfl (fun c603 => ?_) (fun c603 => ?_)
                                                                · exact J1216 _ ax3 _
                                                                · skip
                                                                  refine z_tin (tgt := 1259) I (r_iAnd _ _) D_law_1.1.2.1.2 30 ⟨by decide, by decide⟩ rfl rfl (fun c604 => ?_) (fun c604 => ?_)
                                                                  · exact J1259 _ ax3 _
                                                                  · skip
                                                                    refine z_tin (tgt := 1323) I (r_iAnd _ _) D_law_1.1.2.1.2 31 ⟨by decide, by decide⟩ rfl rfl (fun c605 => ?_) (fun c605 => ?_)
                                                                    · exact J1323 _ ax3 _
                                                                    · skip
                                                                      refine z_tin (tgt := 1382) I (r_iAnd _ _) D_law_1.1.2.1.2 32 ⟨by decide, by decide⟩ rfl rfl (fun c606 => ?_) (fun c606 => ?_)
                                                                      · exact J1382 _ ax3 _
                                                                      · skip
                                                                        refine z_tin (tgt := 1405) I (r_iAnd _ _) D_law_1.1.2.1.2 33 ⟨by decide, by decide⟩ rfl rfl (fun c607 => ?_) (fun c607 => ?_)
                                                                        · exact J1405 _ ax3 _
                                                                        · skip
                                                                          refine z_tin (tgt := 1429) I (r_iAnd _ _) D_law_1.1.2.1.2 34 ⟨by decide, by decide⟩ rfl rfl (fun c608 => ?_) (fun c608 => ?_)
                                                                          · exact J1429 _ ax3 _
                                                                          · skip
                                                                            refine z_tin (tgt := 1472) I (r_iAnd _ _) D_law_1.1.2.1.2 35 ⟨by decide, by decide⟩ rfl rfl (fun c609 => ?_) (fun c609 => ?_)
                                                                            · exact J1472 _ ax3 _
                                                                            · skip
                                                                              refine z_tin (tgt := 1485) I (r_iAnd _ _) D_law_1.1.2.1.2 36 ⟨by decide, by decide⟩ rfl rfl (fun c610 => ?_) (fun c610 => ?_)
                                                                              · exact J1485 _ ax3 _
                                                                              · skip
                                                                                refine z_tin (tgt := 1528) I (r_iAnd _ _) D_law_1.1.2.1.2 37 ⟨by decide, by decide⟩ rfl rfl (fun c611 => ?_) (fun c611 => ?_)
                                                                                · exact J1528 _ ax3 _
                                                                                · skip
                                                                                  refine z_tin (tgt := 1541) I (r_iAnd _ _) D_law_1.1.2.1.2 38 ⟨by decide, by decide⟩ rfl rfl (fun c612 => ?_) (fun c612 => ?_)
                                                                                  · exact J1541 _ ax3 _
                                                                                  · skip
                                                                                    refine z_tin (tgt := 1554) I (r_iAnd _ _) D_law_1.1.2.1.2 39 ⟨by decide, by decide⟩ rfl rfl (fun c613 => ?_) (fun c613 => ?_)
                                                                                    · exact J1554 _ ax3 _
                                                                                    · skip
                                                                                      refine z_tin (tgt := 1577) I (r_iAnd _ _) D_law_1.1.2.1.2 40 ⟨by decide, by decide⟩ rfl rfl (fun c614 => ?_) (fun c614 => ?_)
                                                                                      · exact J1577 _ ax3 _
                                                                                      · skip
                                                                                        refine z_tin (tgt := 1620) I (r_iAnd _ _) D_law_1.1.2.1.2 41 ⟨by decide, by decide⟩ rfl rfl (fun c615 => ?_) (fun c615 => ?_)
                                                                                        · exact J1620 _ ax3 _
                                                                                        · skip
                                                                                          refine z_tin (tgt := 1693) I (r_iAnd _ _) D_law_1.1.2.1.2 42 ⟨by decide, by decide⟩ rfl rfl (fun c616 => ?_) (fun c616 => ?_)
                                                                                          · exact J1693 _ ax3 _
                                                                                          · skip
                                                                                            refine z_tin (tgt := 1727) I (r_iAnd _ _) D_law_1.1.2.1.2 43 ⟨by decide, by decide⟩ rfl rfl (fun c617 => ?_) (fun c617 => ?_)
                                                                                            · exact J1727 _ ax3 _
                                                                                            · skip
                                                                                              refine z_tout (tgt := 1790) I (r_iAnd _ _) D_law_1.1.2.1.2 (by omega) rfl ?_
                                                                                              refine z_s I (s_iinc (pc' := 1793) (lv' := [(3, vI (w32 (x3 + 6))), (0, .ref b), (1, vR ad r1), (2, vR ad r2)]) (n := 3) rfl D_law_81.2.2.2.1 (by decide) rfl rfl) ?_
                                                                                              refine z_s I (s_goto (tgt := 18) D_law_81.2.2.2.2 rfl) ?_
                                                                                              refine z_s I (s_lv (lv' := [(0, .ref b), (1, vR ad r1), (2, vR ad r2), (3, vI (w32 (x3 + 6)))]) [1, 2, 3, 0] rfl) ?_
                                                                                              exact z_end (fun g => hin1_1 _ g (inR_w32 _))
  have main : Z Y (m_law_from r1 r2 xs m h) G0 h 16 [(0, .ref b), (1, vR ad r1), (2, vR ad r2)] [] := by
    unfold m_law_from
    refine z_s I (s_iconst (pc' := 17) D_law_0.2.1.1.1 rfl) ?_
    refine z_s I (s_istore_n (pc' := 18) (lv' := [(3, vI 0), (0, .ref b), (1, vR ad r1), (2, vR ad r2)]) D_law_0.2.1.1.2 rfl (by decide) rfl rfl) ?_
    refine z_s I (s_lv (lv' := [(0, .ref b), (1, vR ad r1), (2, vR ad r2), (3, vI 0)]) [1, 2, 3, 0] rfl) ?_
    exact L18 _ (b01.R bz0)
  exact main _ hF (by rw [hG0])
