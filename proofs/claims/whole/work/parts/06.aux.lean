/-- a number by a name -/
def bv {A X : Type} (a : A) (k : A → Option X) : Option X := k a
section Aux6
variable {τ : TP} {ad : Nat → Nat} {Y : HP → Nat → List (Nat × Value) → List Value → Prop} {X : Type} {T T1 T2 : Option X} {G : X → Prop} {h : HP} {pc : Nat} {lv : List (Nat × Value)} {st rest : List Value}
theorem z_g {c : Prop} [Decidable c] (hc : c) (k : Z Y (if c then T else none) G h pc lv st) : Z Y T G h pc lv st := by
  rwa [if_pos hc] at k
theorem z_ite {c : Prop} [Decidable c] (k1 : c → Z Y T1 G h pc lv st) (k2 : ¬ c → Z Y T2 G h pc lv st) : Z Y (if c then T1 else T2) G h pc lv st := by
  by_cases q : c
  · rw [if_pos q]
    exact k1 q
  · rw [if_neg q]
    exact k2 q
theorem z_bI {e : Int} {k : Int → Option X} (f : inR e) (q : ∀ x, x = e → inR x → Z Y (k x) G h pc lv (vI x :: rest)) : Z Y (bv e k) G h pc lv (vI e :: rest) := q e rfl f
theorem z_bZ {e : Int} {k : Int → Option X} (f : b01 e) (q : ∀ x, x = e → b01 x → Z Y (k x) G h pc lv (vI x :: rest)) : Z Y (bv e k) G h pc lv (vI e :: rest) := q e rfl f
theorem z_bL {e : Int} {k : Int → Option X} (f : inL e) (q : ∀ x, x = e → inL x → Z Y (k x) G h pc lv (vL x :: rest)) : Z Y (bv e k) G h pc lv (vL e :: rest) := q e rfl f
theorem z_bR {e : Int} {kd : Nat × Nat} {k : Int → Option X} (f : ok τ kd e) (q : ∀ x, x = e → ok τ kd x → Z Y (k x) G h pc lv (vR ad x :: rest)) : Z Y (bv e k) G h pc lv (vR ad e :: rest) := q e rfl f
theorem z_bH {k : HP → Option X} (q : ∀ x, x = h → Z Y (k x) G x pc lv st) : Z Y (bv h k) G h pc lv st := q h rfl
theorem z_end {w : X} (q : G w → Y h pc lv st) : Z Y (some w) G h pc lv st := by
  intro x hT hG
  cases hT
  exact q hG
theorem r_iAnd (x y : Int) : inR (iAnd x y) := inR_of _
theorem r_iOr (x y : Int) : inR (iOr x y) := inR_of _
theorem r_iXor (x y : Int) : inR (iXor x y) := inR_of _
theorem r_iShl (x y : Int) : inR (iShl x y) := inR_of _
theorem r_iShr (x y : Int) : inR (iShr x y) := inR_of _
theorem r_iUshr (x y : Int) : inR (iUshr x y) := inR_of _
theorem r_iDiv (x y : Int) : inR (iDiv x y) := inR_of _
theorem r_iRem (x y : Int) : inR (iRem x y) := inR_of _
theorem r_l2i (x : Int) : inR (l2i x) := inR_of _
theorem r_i2b (x : Int) : inR (i2b x) := inR_of _
theorem r_i2s (x : Int) : inR (i2s x) := inR_of _
theorem r_lAnd (x y : Int) : inL (lAnd x y) := inL_of _
theorem r_lOr (x y : Int) : inL (lOr x y) := inL_of _
theorem r_lShl (x y : Int) : inL (lShl x y) := inL_of _
theorem r_lDiv (x y : Int) : inL (lDiv x y) := inL_of _
theorem r_lRem (x y : Int) : inL (lRem x y) := inL_of _
theorem bz0 : b01 0 := Or.inl rfl
theorem bz1 : b01 1 := Or.inr rfl
theorem b_iAnd {x y : Int} (hx : b01 x) (hy : b01 y) : b01 (iAnd x y) := by
  rcases hx with rfl | rfl <;> rcases hy with rfl | rfl <;> (unfold b01; decide +kernel)
theorem b_iOr {x y : Int} (hx : b01 x) (hy : b01 y) : b01 (iOr x y) := by
  rcases hx with rfl | rfl <;> rcases hy with rfl | rfl <;> (unfold b01; decide +kernel)
theorem b_iXor {x y : Int} (hx : b01 x) (hy : b01 y) : b01 (iXor x y) := by
  rcases hx with rfl | rfl <;> rcases hy with rfl | rfl <;> (unfold b01; decide +kernel)
end Aux6
section Aux6b
variable {l : Launch} {τ : TP} {ad : Nat → Nat} {cc : ByteArray} {nL : Nat} {own : String} {R : Room} {ret : Option FieldType} {K : Option Value → HP → Prop} {Y : HP → Nat → List (Nat × Value) → List Value → Prop}
variable {X : Type} {T T1 T2 : Option X} {G : X → Prop} {h h' : HP} {pc pc' tgt : Nat} {lv lv' : List (Nat × Value)} {st st' rest : List Value} {x y : Int}
theorem z_idiv (I : Isy l τ ad cc nL own R ret K Y) (hy : inR y) (d : decode cc pc = .ok (.idiv, 1)) (hp : pc + 1 = pc') (k : ¬ y = 0 → Z Y T G h pc' lv (vI (iDiv x y) :: rest)) : Z Y (if y = 0 then none else T) G h pc lv (vI y :: vI x :: rest) := by
  subst hp
  obtain ⟨p, e, s, m, args, below, meth, c, cells, slots, Q, D, cA, A, H0, hx', hb, hml, hown, hts, hK, hw, hA, hc, hs, rfl, hret⟩ := I
  intro r hT hG H locs ls hP hD hS hl hh
  by_cases q : y = 0
  · rw [if_pos q] at hT
    cases hT
  · rw [if_neg q] at hT
    have k := k q r hT hG H locs ls hP hD hS hl hh
    refine lv_idiv hx' hb d (fun z => q ((eq32 hy (inR_c (x := 0) rfl)).mp z)) ?_
    unfold vI iDiv at k
    rwa [Int32.ofInt_toInt] at k
theorem z_irem (I : Isy l τ ad cc nL own R ret K Y) (hy : inR y) (d : decode cc pc = .ok (.irem, 1)) (hp : pc + 1 = pc') (k : ¬ y = 0 → Z Y T G h pc' lv (vI (iRem x y) :: rest)) : Z Y (if y = 0 then none else T) G h pc lv (vI y :: vI x :: rest) := by
  subst hp
  obtain ⟨p, e, s, m, args, below, meth, c, cells, slots, Q, D, cA, A, H0, hx', hb, hml, hown, hts, hK, hw, hA, hc, hs, rfl, hret⟩ := I
  intro r hT hG H locs ls hP hD hS hl hh
  by_cases q : y = 0
  · rw [if_pos q] at hT
    cases hT
  · rw [if_neg q] at hT
    have k := k q r hT hG H locs ls hP hD hS hl hh
    refine lv_irem hx' hb d (fun z => q ((eq32 hy (inR_c (x := 0) rfl)).mp z)) ?_
    unfold vI iRem at k
    rwa [Int32.ofInt_toInt] at k
theorem z_ldiv (I : Isy l τ ad cc nL own R ret K Y) (hy : inL y) (d : decode cc pc = .ok (.ldiv, 1)) (hp : pc + 1 = pc') (k : ¬ y = 0 → Z Y T G h pc' lv (vL (lDiv x y) :: rest)) : Z Y (if y = 0 then none else T) G h pc lv (vL y :: vL x :: rest) := by
  subst hp
  obtain ⟨p, e, s, m, args, below, meth, c, cells, slots, Q, D, cA, A, H0, hx', hb, hml, hown, hts, hK, hw, hA, hc, hs, rfl, hret⟩ := I
  intro r hT hG H locs ls hP hD hS hl hh
  by_cases q : y = 0
  · rw [if_pos q] at hT
    cases hT
  · rw [if_neg q] at hT
    have k := k q r hT hG H locs ls hP hD hS hl hh
    refine lv_ldiv hx' hb d (fun z => q ((eq64 hy (inL_c (x := 0) rfl)).mp z)) ?_
    unfold vL lDiv at k
    rwa [Int64.ofInt_toInt] at k
theorem z_lrem (I : Isy l τ ad cc nL own R ret K Y) (hy : inL y) (d : decode cc pc = .ok (.lrem, 1)) (hp : pc + 1 = pc') (k : ¬ y = 0 → Z Y T G h pc' lv (vL (lRem x y) :: rest)) : Z Y (if y = 0 then none else T) G h pc lv (vL y :: vL x :: rest) := by
  subst hp
  obtain ⟨p, e, s, m, args, below, meth, c, cells, slots, Q, D, cA, A, H0, hx', hb, hml, hown, hts, hK, hw, hA, hc, hs, rfl, hret⟩ := I
  intro r hT hG H locs ls hP hD hS hl hh
  by_cases q : y = 0
  · rw [if_pos q] at hT
    cases hT
  · rw [if_neg q] at hT
    have k := k q r hT hG H locs ls hP hD hS hl hh
    refine lv_lrem hx' hb d (fun z => q ((eq64 hy (inL_c (x := 0) rfl)).mp z)) ?_
    unfold vL lRem at k
    rwa [Int64.ofInt_toInt] at k
end Aux6b
theorem r_Exam_key {τ : TP} {o e : Int} (hw : wf τ) (ho : ok τ (4, 1) o) (he : o + 1 = e) : ok τ (0, 8) e := he ▸ ok_fld (off := 1) hw ho rfl (by decide)
theorem r_Exam_kind {τ : TP} {o e : Int} (hw : wf τ) (ho : ok τ (4, 1) o) (he : o + 2 = e) : ok τ (0, 8) e := he ▸ ok_fld (off := 2) hw ho rfl (by decide)
theorem r_Exam_parts {τ : TP} {o e : Int} (hw : wf τ) (ho : ok τ (4, 1) o) (he : o + 3 = e) : ok τ (3, 0) e := he ▸ ok_fld (off := 3) hw ho rfl (by decide)
theorem r_Exam_given {τ : TP} {o e : Int} (hw : wf τ) (ho : ok τ (4, 1) o) (he : o + 12 = e) : ok τ (3, 1) e := he ▸ ok_fld (off := 12) hw ho rfl (by decide)
theorem r_Exam_row {τ : TP} {o e : Int} (hw : wf τ) (ho : ok τ (4, 1) o) (he : o + 21 = e) : ok τ (0, 8) e := he ▸ ok_fld (off := 21) hw ho rfl (by decide)
theorem r_Exam_place {τ : TP} {o e : Int} (hw : wf τ) (ho : ok τ (4, 1) o) (he : o + 22 = e) : ok τ (0, 8) e := he ▸ ok_fld (off := 22) hw ho rfl (by decide)
theorem r_Exam_used {τ : TP} {o e : Int} (hw : wf τ) (ho : ok τ (4, 1) o) (he : o + 23 = e) : ok τ (0, 6) e := he ▸ ok_fld (off := 23) hw ho rfl (by decide)
theorem r_Exam_seenX {τ : TP} {o e : Int} (hw : wf τ) (ho : ok τ (4, 1) o) (he : o + 24 = e) : ok τ (0, 5) e := he ▸ ok_fld (off := 24) hw ho rfl (by decide)
theorem r_Exam_seenY {τ : TP} {o e : Int} (hw : wf τ) (ho : ok τ (4, 1) o) (he : o + 25 = e) : ok τ (0, 5) e := he ▸ ok_fld (off := 25) hw ho rfl (by decide)
theorem r_Exam_seenIs {τ : TP} {o e : Int} (hw : wf τ) (ho : ok τ (4, 1) o) (he : o + 26 = e) : ok τ (2, 5) e := he ▸ ok_fld (off := 26) hw ho rfl (by decide)
theorem r_Exam_planWhat {τ : TP} {o e : Int} (hw : wf τ) (ho : ok τ (4, 1) o) (he : o + 27 = e) : ok τ (0, 8) e := he ▸ ok_fld (off := 27) hw ho rfl (by decide)
theorem r_Exam_planK {τ : TP} {o e : Int} (hw : wf τ) (ho : ok τ (4, 1) o) (he : o + 28 = e) : ok τ (0, 8) e := he ▸ ok_fld (off := 28) hw ho rfl (by decide)
theorem r_Exam_planV {τ : TP} {o e : Int} (hw : wf τ) (ho : ok τ (4, 1) o) (he : o + 29 = e) : ok τ (0, 8) e := he ▸ ok_fld (off := 29) hw ho rfl (by decide)
theorem r_Links_suspectWith {τ : TP} {o e : Int} (hw : wf τ) (ho : ok τ (4, 2) o) (he : o + 1 = e) : ok τ (0, 8) e := he ▸ ok_fld (off := 1) hw ho rfl (by decide)
theorem r_Odds_shares {τ : TP} {o e : Int} (hw : wf τ) (ho : ok τ (4, 3) o) (he : o + 1 = e) : ok τ (0, 4) e := he ▸ ok_fld (off := 1) hw ho rfl (by decide)
theorem r_Odds_ways {τ : TP} {o e : Int} (hw : wf τ) (ho : ok τ (4, 3) o) (he : o + 2 = e) : ok τ (1, 33) e := he ▸ ok_fld (off := 2) hw ho rfl (by decide)
theorem r_Ranking_lower {τ : TP} {o e : Int} (hw : wf τ) (ho : ok τ (4, 4) o) (he : o + 1 = e) : ok τ (0, 28) e := he ▸ ok_fld (off := 1) hw ho rfl (by decide)
theorem r_Ranking_upper {τ : TP} {o e : Int} (hw : wf τ) (ho : ok τ (4, 4) o) (he : o + 2 = e) : ok τ (0, 28) e := he ▸ ok_fld (off := 2) hw ho rfl (by decide)
theorem r_Ranking_above {τ : TP} {o e : Int} (hw : wf τ) (ho : ok τ (4, 4) o) (he : o + 3 = e) : ok τ (1, 28) e := he ▸ ok_fld (off := 3) hw ho rfl (by decide)
theorem r_Ranking_below {τ : TP} {o e : Int} (hw : wf τ) (ho : ok τ (4, 4) o) (he : o + 4 = e) : ok τ (1, 28) e := he ▸ ok_fld (off := 4) hw ho rfl (by decide)
theorem r_Ranking_one {τ : TP} {o e : Int} (hw : wf τ) (ho : ok τ (4, 4) o) (he : o + 5 = e) : ok τ (4, 5) e := he ▸ ok_fld (off := 5) hw ho rfl (by decide)
theorem r_Ranking_turned {τ : TP} {o e : Int} (hw : wf τ) (ho : ok τ (4, 4) o) (he : o + 6 = e) : ok τ (4, 5) e := he ▸ ok_fld (off := 6) hw ho rfl (by decide)
theorem r_Seating_who {τ : TP} {o e : Int} (hw : wf τ) (ho : ok τ (4, 6) o) (he : o + 1 = e) : ok τ (0, 6) e := he ▸ ok_fld (off := 1) hw ho rfl (by decide)
theorem r_Seating_seatOf {τ : TP} {o e : Int} (hw : wf τ) (ho : ok τ (4, 6) o) (he : o + 2 = e) : ok τ (0, 6) e := he ▸ ok_fld (off := 2) hw ho rfl (by decide)
theorem r_Seating_nearTo {τ : TP} {o e : Int} (hw : wf τ) (ho : ok τ (4, 6) o) (he : o + 3 = e) : ok τ (0, 6) e := he ▸ ok_fld (off := 3) hw ho rfl (by decide)
theorem r_Seating_suspectWith {τ : TP} {o e : Int} (hw : wf τ) (ho : ok τ (4, 6) o) (he : o + 4 = e) : ok τ (0, 6) e := he ▸ ok_fld (off := 4) hw ho rfl (by decide)
theorem r_Tape_row {τ : TP} {o e : Int} (hw : wf τ) (ho : ok τ (4, 7) o) (he : o + 1 = e) : ok τ (1, 60) e := he ▸ ok_fld (off := 1) hw ho rfl (by decide)
theorem r_Text_signs {τ : TP} {o e : Int} (hw : wf τ) (ho : ok τ (4, 8) o) (he : o + 1 = e) : ok τ (0, 60) e := he ▸ ok_fld (off := 1) hw ho rfl (by decide)
theorem r_Cb_now {τ : TP} {o e : Int} (hw : wf τ) (ho : ok τ (4, 9) o) (he : o + 1 = e) : ok τ (4, 1) e := he ▸ ok_fld (off := 1) hw ho rfl (by decide)
theorem r_Cb_kept {τ : TP} {o e : Int} (hw : wf τ) (ho : ok τ (4, 9) o) (he : o + 31 = e) : ok τ (4, 1) e := he ▸ ok_fld (off := 31) hw ho rfl (by decide)
theorem r_Cb_trial {τ : TP} {o e : Int} (hw : wf τ) (ho : ok τ (4, 9) o) (he : o + 61 = e) : ok τ (4, 1) e := he ▸ ok_fld (off := 61) hw ho rfl (by decide)
theorem r_Cb_text {τ : TP} {o e : Int} (hw : wf τ) (ho : ok τ (4, 9) o) (he : o + 91 = e) : ok τ (4, 8) e := he ▸ ok_fld (off := 91) hw ho rfl (by decide)
theorem r_Cb_tapes {τ : TP} {o e : Int} (hw : wf τ) (ho : ok τ (4, 9) o) (he : o + 93 = e) : ok τ (3, 2) e := he ▸ ok_fld (off := 93) hw ho rfl (by decide)
theorem r_Cb_odds {τ : TP} {o e : Int} (hw : wf τ) (ho : ok τ (4, 9) o) (he : o + 94 = e) : ok τ (4, 3) e := he ▸ ok_fld (off := 94) hw ho rfl (by decide)
theorem r_Cb_first {τ : TP} {o e : Int} (hw : wf τ) (ho : ok τ (4, 9) o) (he : o + 97 = e) : ok τ (4, 5) e := he ▸ ok_fld (off := 97) hw ho rfl (by decide)
theorem r_Cb_second {τ : TP} {o e : Int} (hw : wf τ) (ho : ok τ (4, 9) o) (he : o + 98 = e) : ok τ (4, 5) e := he ▸ ok_fld (off := 98) hw ho rfl (by decide)
theorem r_Cb_ranking {τ : TP} {o e : Int} (hw : wf τ) (ho : ok τ (4, 9) o) (he : o + 99 = e) : ok τ (4, 4) e := he ▸ ok_fld (off := 99) hw ho rfl (by decide)
theorem r_Cb_links {τ : TP} {o e : Int} (hw : wf τ) (ho : ok τ (4, 9) o) (he : o + 106 = e) : ok τ (4, 2) e := he ▸ ok_fld (off := 106) hw ho rfl (by decide)
theorem r_Cb_seating {τ : TP} {o e : Int} (hw : wf τ) (ho : ok τ (4, 9) o) (he : o + 108 = e) : ok τ (4, 6) e := he ▸ ok_fld (off := 108) hw ho rfl (by decide)
theorem r_Cb_draws {τ : TP} {o e : Int} (hw : wf τ) (ho : ok τ (4, 9) o) (he : o + 113 = e) : ok τ (4, 0) e := he ▸ ok_fld (off := 113) hw ho rfl (by decide)
theorem r_Md_right {τ : TP} {o e : Int} (hw : wf τ) (ho : ok τ (4, 10) o) (he : o + 1 = e) : ok τ (0, 8) e := he ▸ ok_fld (off := 1) hw ho rfl (by decide)
theorem r_Md_kind {τ : TP} {o e : Int} (hw : wf τ) (ho : ok τ (4, 10) o) (he : o + 2 = e) : ok τ (0, 8) e := he ▸ ok_fld (off := 2) hw ho rfl (by decide)
theorem r_Md_parts {τ : TP} {o e : Int} (hw : wf τ) (ho : ok τ (4, 10) o) (he : o + 3 = e) : ok τ (0, 32) e := he ▸ ok_fld (off := 3) hw ho rfl (by decide)
theorem r_Md_given {τ : TP} {o e : Int} (hw : wf τ) (ho : ok τ (4, 10) o) (he : o + 4 = e) : ok τ (0, 64) e := he ▸ ok_fld (off := 4) hw ho rfl (by decide)
theorem r_Md_row {τ : TP} {o e : Int} (hw : wf τ) (ho : ok τ (4, 10) o) (he : o + 5 = e) : ok τ (0, 8) e := he ▸ ok_fld (off := 5) hw ho rfl (by decide)
theorem r_Md_place {τ : TP} {o e : Int} (hw : wf τ) (ho : ok τ (4, 10) o) (he : o + 6 = e) : ok τ (0, 8) e := he ▸ ok_fld (off := 6) hw ho rfl (by decide)
theorem r_Md_used {τ : TP} {o e : Int} (hw : wf τ) (ho : ok τ (4, 10) o) (he : o + 7 = e) : ok τ (0, 6) e := he ▸ ok_fld (off := 7) hw ho rfl (by decide)
theorem r_Md_seenX {τ : TP} {o e : Int} (hw : wf τ) (ho : ok τ (4, 10) o) (he : o + 8 = e) : ok τ (0, 5) e := he ▸ ok_fld (off := 8) hw ho rfl (by decide)
theorem r_Md_seenY {τ : TP} {o e : Int} (hw : wf τ) (ho : ok τ (4, 10) o) (he : o + 9 = e) : ok τ (0, 5) e := he ▸ ok_fld (off := 9) hw ho rfl (by decide)
theorem r_Md_seenIs {τ : TP} {o e : Int} (hw : wf τ) (ho : ok τ (4, 10) o) (he : o + 10 = e) : ok τ (0, 5) e := he ▸ ok_fld (off := 10) hw ho rfl (by decide)
theorem r_Md_planWhat {τ : TP} {o e : Int} (hw : wf τ) (ho : ok τ (4, 10) o) (he : o + 11 = e) : ok τ (0, 8) e := he ▸ ok_fld (off := 11) hw ho rfl (by decide)
theorem r_Md_planK {τ : TP} {o e : Int} (hw : wf τ) (ho : ok τ (4, 10) o) (he : o + 12 = e) : ok τ (0, 8) e := he ▸ ok_fld (off := 12) hw ho rfl (by decide)
theorem r_Md_planV {τ : TP} {o e : Int} (hw : wf τ) (ho : ok τ (4, 10) o) (he : o + 13 = e) : ok τ (0, 8) e := he ▸ ok_fld (off := 13) hw ho rfl (by decide)
theorem r_Md_text {τ : TP} {o e : Int} (hw : wf τ) (ho : ok τ (4, 10) o) (he : o + 14 = e) : ok τ (0, 60) e := he ▸ ok_fld (off := 14) hw ho rfl (by decide)
theorem r_Md_imaged {τ : TP} {o e : Int} (hw : wf τ) (ho : ok τ (4, 10) o) (he : o + 15 = e) : ok τ (0, 200) e := he ▸ ok_fld (off := 15) hw ho rfl (by decide)
theorem r_Md_ways {τ : TP} {o e : Int} (hw : wf τ) (ho : ok τ (4, 10) o) (he : o + 16 = e) : ok τ (1, 33) e := he ▸ ok_fld (off := 16) hw ho rfl (by decide)
theorem r_Md_before {τ : TP} {o e : Int} (hw : wf τ) (ho : ok τ (4, 10) o) (he : o + 17 = e) : ok τ (1, 33) e := he ▸ ok_fld (off := 17) hw ho rfl (by decide)
theorem r_Md_pairX {τ : TP} {o e : Int} (hw : wf τ) (ho : ok τ (4, 10) o) (he : o + 18 = e) : ok τ (0, 28) e := he ▸ ok_fld (off := 18) hw ho rfl (by decide)
theorem r_Md_pairY {τ : TP} {o e : Int} (hw : wf τ) (ho : ok τ (4, 10) o) (he : o + 19 = e) : ok τ (0, 28) e := he ▸ ok_fld (off := 19) hw ho rfl (by decide)
theorem r_Md_above {τ : TP} {o e : Int} (hw : wf τ) (ho : ok τ (4, 10) o) (he : o + 20 = e) : ok τ (1, 28) e := he ▸ ok_fld (off := 20) hw ho rfl (by decide)
theorem r_Md_under {τ : TP} {o e : Int} (hw : wf τ) (ho : ok τ (4, 10) o) (he : o + 21 = e) : ok τ (1, 28) e := he ▸ ok_fld (off := 21) hw ho rfl (by decide)
theorem r_Md_isSuspect {τ : TP} {o e : Int} (hw : wf τ) (ho : ok τ (4, 10) o) (he : o + 22 = e) : ok τ (2, 28) e := he ▸ ok_fld (off := 22) hw ho rfl (by decide)
theorem r_Md_links {τ : TP} {o e : Int} (hw : wf τ) (ho : ok τ (4, 10) o) (he : o + 23 = e) : ok τ (0, 8) e := he ▸ ok_fld (off := 23) hw ho rfl (by decide)
theorem r_Md_sits {τ : TP} {o e : Int} (hw : wf τ) (ho : ok τ (4, 10) o) (he : o + 24 = e) : ok τ (0, 6) e := he ▸ ok_fld (off := 24) hw ho rfl (by decide)
theorem r_Md_seatOf {τ : TP} {o e : Int} (hw : wf τ) (ho : ok τ (4, 10) o) (he : o + 25 = e) : ok τ (0, 6) e := he ▸ ok_fld (off := 25) hw ho rfl (by decide)
theorem r_Md_givenWas {τ : TP} {o e : Int} (hw : wf τ) (ho : ok τ (4, 10) o) (he : o + 26 = e) : ok τ (0, 64) e := he ▸ ok_fld (off := 26) hw ho rfl (by decide)
theorem r_Md_rightWas {τ : TP} {o e : Int} (hw : wf τ) (ho : ok τ (4, 10) o) (he : o + 27 = e) : ok τ (0, 8) e := he ▸ ok_fld (off := 27) hw ho rfl (by decide)
theorem r_Md_kindWas {τ : TP} {o e : Int} (hw : wf τ) (ho : ok τ (4, 10) o) (he : o + 28 = e) : ok τ (0, 8) e := he ▸ ok_fld (off := 28) hw ho rfl (by decide)
theorem r_Md_tapes {τ : TP} {o e : Int} (hw : wf τ) (ho : ok τ (4, 10) o) (he : o + 29 = e) : ok τ (3, 3) e := he ▸ ok_fld (off := 29) hw ho rfl (by decide)
theorem r_Md_tapeSort {τ : TP} {o e : Int} (hw : wf τ) (ho : ok τ (4, 10) o) (he : o + 36 = e) : ok τ (0, 6) e := he ▸ ok_fld (off := 36) hw ho rfl (by decide)
theorem r_Md_tapeSize {τ : TP} {o e : Int} (hw : wf τ) (ho : ok τ (4, 10) o) (he : o + 37 = e) : ok τ (0, 6) e := he ▸ ok_fld (off := 37) hw ho rfl (by decide)
theorem r_Md_moved {τ : TP} {o e : Int} (hw : wf τ) (ho : ok τ (4, 10) o) (he : o + 38 = e) : ok τ (1, 60) e := he ▸ ok_fld (off := 38) hw ho rfl (by decide)
theorem e_0 {τ : TP} {a i e : Int} (hw : wf τ) (ho : ok τ (3, 0) a) (hi : 0 ≤ i ∧ i < 8) (he : a + 1 + 1 * i = e) : ok τ (0, 4) e := he ▸ ok_elt 8 1 1 hw ho rfl rfl rfl rfl hi
theorem e_1 {τ : TP} {a i e : Int} (hw : wf τ) (ho : ok τ (3, 1) a) (hi : 0 ≤ i ∧ i < 8) (he : a + 1 + 1 * i = e) : ok τ (0, 8) e := he ▸ ok_elt 8 1 1 hw ho rfl rfl rfl rfl hi
theorem e_2 {τ : TP} {a i e : Int} (hw : wf τ) (ho : ok τ (3, 2) a) (hi : 0 ≤ i ∧ i < 6) (he : a + 21 + 2 * i = e) : ok τ (4, 7) e := he ▸ ok_elt 6 21 2 hw ho rfl rfl rfl rfl hi
theorem e_3 {τ : TP} {a i e : Int} (hw : wf τ) (ho : ok τ (3, 3) a) (hi : 0 ≤ i ∧ i < 6) (he : a + 1 + 1 * i = e) : ok τ (1, 60) e := he ▸ ok_elt 6 1 1 hw ho rfl rfl rfl rfl hi
theorem p_Cb_24 : PF "CopyBench" 24 9 3 .boolean := ⟨R_Cb, F_Cb, 13, t_Cb, rfl, i_Cb, by decide, fl_Cb_24, rfl, t_Cb_ok, n_Cb, rfl, by decide +kernel⟩
theorem g_Cb_37 : GF "CopyBench" 37 9 5 := ⟨R_Cb, F_Cb, 13, rfl, i_Cb, by decide, fl_Cb_37, rfl⟩
theorem g_Cb_12 : GF "CopyBench" 12 9 0 := ⟨R_Cb, F_Cb, 13, rfl, i_Cb, by decide, fl_Cb_12, rfl⟩
theorem g_Cb_87 : GF "CopyBench" 87 1 0 := ⟨R_Exam, F_Exam, 17, rfl, i_Exam, by decide, fl_Cb_87, rfl⟩
theorem g_Cb_102 : GF "CopyBench" 102 1 4 := ⟨R_Exam, F_Exam, 17, rfl, i_Exam, by decide, fl_Cb_102, rfl⟩
theorem g_Cb_109 : GF "CopyBench" 109 1 5 := ⟨R_Exam, F_Exam, 17, rfl, i_Exam, by decide, fl_Cb_109, rfl⟩
theorem g_Cb_112 : GF "CopyBench" 112 1 6 := ⟨R_Exam, F_Exam, 17, rfl, i_Exam, by decide, fl_Cb_112, rfl⟩
theorem g_Cb_116 : GF "CopyBench" 116 1 1 := ⟨R_Exam, F_Exam, 17, rfl, i_Exam, by decide, fl_Cb_116, rfl⟩
theorem g_Cb_126 : GF "CopyBench" 126 1 7 := ⟨R_Exam, F_Exam, 17, rfl, i_Exam, by decide, fl_Cb_126, rfl⟩
theorem g_Cb_31 : GF "CopyBench" 31 9 4 := ⟨R_Cb, F_Cb, 13, rfl, i_Cb, by decide, fl_Cb_31, rfl⟩
theorem g_Cb_165 : GF "CopyBench" 165 1 10 := ⟨R_Exam, F_Exam, 17, rfl, i_Exam, by decide, fl_Cb_165, rfl⟩
theorem g_Cb_174 : GF "CopyBench" 174 1 8 := ⟨R_Exam, F_Exam, 17, rfl, i_Exam, by decide, fl_Cb_174, rfl⟩
theorem g_Cb_177 : GF "CopyBench" 177 1 9 := ⟨R_Exam, F_Exam, 17, rfl, i_Exam, by decide, fl_Cb_177, rfl⟩
theorem g_Cb_44 : GF "CopyBench" 44 9 6 := ⟨R_Cb, F_Cb, 13, rfl, i_Cb, by decide, fl_Cb_44, rfl⟩
theorem g_Cb_200 : GF "CopyBench" 200 3 1 := ⟨R_Odds, F_Odds, 9, rfl, i_Odds, by decide, fl_Cb_200, rfl⟩
theorem g_Cb_203 : GF "CopyBench" 203 3 0 := ⟨R_Odds, F_Odds, 9, rfl, i_Odds, by decide, fl_Cb_203, rfl⟩
theorem g_Cb_51 : GF "CopyBench" 51 9 7 := ⟨R_Cb, F_Cb, 13, rfl, i_Cb, by decide, fl_Cb_51, rfl⟩
theorem g_Cb_55 : GF "CopyBench" 55 9 8 := ⟨R_Cb, F_Cb, 13, rfl, i_Cb, by decide, fl_Cb_55, rfl⟩
theorem g_Cb_61 : GF "CopyBench" 61 9 9 := ⟨R_Cb, F_Cb, 13, rfl, i_Cb, by decide, fl_Cb_61, rfl⟩
theorem g_Cb_246 : GF "CopyBench" 246 4 1 := ⟨R_Ranking, F_Ranking, 8, rfl, i_Ranking, by decide, fl_Cb_246, rfl⟩
theorem g_Cb_68 : GF "CopyBench" 68 9 10 := ⟨R_Cb, F_Cb, 13, rfl, i_Cb, by decide, fl_Cb_68, rfl⟩
theorem g_Cb_264 : GF "CopyBench" 264 4 2 := ⟨R_Ranking, F_Ranking, 8, rfl, i_Ranking, by decide, fl_Cb_264, rfl⟩
theorem g_Cb_267 : GF "CopyBench" 267 4 3 := ⟨R_Ranking, F_Ranking, 8, rfl, i_Ranking, by decide, fl_Cb_267, rfl⟩
theorem g_Cb_270 : GF "CopyBench" 270 4 4 := ⟨R_Ranking, F_Ranking, 8, rfl, i_Ranking, by decide, fl_Cb_270, rfl⟩
theorem g_Cb_274 : GF "CopyBench" 274 4 5 := ⟨R_Ranking, F_Ranking, 8, rfl, i_Ranking, by decide, fl_Cb_274, rfl⟩
theorem g_Cb_280 : GF "CopyBench" 280 2 0 := ⟨R_Links, F_Links, 1, rfl, i_Links, by decide, fl_Cb_280, rfl⟩
theorem g_Cb_75 : GF "CopyBench" 75 9 11 := ⟨R_Cb, F_Cb, 13, rfl, i_Cb, by decide, fl_Cb_75, rfl⟩
theorem g_Cb_82 : GF "CopyBench" 82 9 12 := ⟨R_Cb, F_Cb, 13, rfl, i_Cb, by decide, fl_Cb_82, rfl⟩
theorem p_Cb_302 : PF "CopyBench" 302 1 2 .int := ⟨R_Exam, F_Exam, 17, t_Exam, rfl, i_Exam, by decide, fl_Cb_302, rfl, t_Exam_ok, n_Exam, rfl, by decide +kernel⟩
theorem g_Cb_302 : GF "CopyBench" 302 1 2 := ⟨R_Exam, F_Exam, 17, rfl, i_Exam, by decide, fl_Cb_302, rfl⟩
theorem p_Cb_320 : PF "CopyBench" 320 1 3 .int := ⟨R_Exam, F_Exam, 17, t_Exam, rfl, i_Exam, by decide, fl_Cb_320, rfl, t_Exam_ok, n_Exam, rfl, by decide +kernel⟩
theorem g_Cb_320 : GF "CopyBench" 320 1 3 := ⟨R_Exam, F_Exam, 17, rfl, i_Exam, by decide, fl_Cb_320, rfl⟩
theorem g_Cb_21 : GF "CopyBench" 21 9 2 := ⟨R_Cb, F_Cb, 13, rfl, i_Cb, by decide, fl_Cb_21, rfl⟩
theorem g_Cb_342 : GF "CopyBench" 342 7 0 := ⟨R_Tape, F_Tape, 3, rfl, i_Tape, by decide, fl_Cb_342, rfl⟩
theorem g_Cb_348 : GF "CopyBench" 348 7 2 := ⟨R_Tape, F_Tape, 3, rfl, i_Tape, by decide, fl_Cb_348, rfl⟩
theorem g_Cb_18 : GF "CopyBench" 18 9 1 := ⟨R_Cb, F_Cb, 13, rfl, i_Cb, by decide, fl_Cb_18, rfl⟩
theorem g_Cb_24 : GF "CopyBench" 24 9 3 := ⟨R_Cb, F_Cb, 13, rfl, i_Cb, by decide, fl_Cb_24, rfl⟩
theorem g_Cb_353 : GF "CopyBench" 353 8 0 := ⟨R_Text, F_Text, 2, rfl, i_Text, by decide, fl_Cb_353, rfl⟩
theorem p_Md_9 : PF "CopyBenchModel" 9 10 0 .int := ⟨R_Md, F_Md, 47, t_Md, rfl, i_Md, by decide, fl_Md_9, rfl, t_Md_ok, n_Md, rfl, by decide +kernel⟩
theorem g_Md_9 : GF "CopyBenchModel" 9 10 0 := ⟨R_Md, F_Md, 47, rfl, i_Md, by decide, fl_Md_9, rfl⟩
theorem g_Md_123 : GF "CopyBenchModel" 123 10 1 := ⟨R_Md, F_Md, 47, rfl, i_Md, by decide, fl_Md_123, rfl⟩
theorem p_Md_123 : PF "CopyBenchModel" 123 10 1 .int := ⟨R_Md, F_Md, 47, t_Md, rfl, i_Md, by decide, fl_Md_123, rfl, t_Md_ok, n_Md, rfl, by decide +kernel⟩
theorem p_Md_130 : PF "CopyBenchModel" 130 10 15 .int := ⟨R_Md, F_Md, 47, t_Md, rfl, i_Md, by decide, fl_Md_130, rfl, t_Md_ok, n_Md, rfl, by decide +kernel⟩
theorem p_Md_133 : PF "CopyBenchModel" 133 10 16 .int := ⟨R_Md, F_Md, 47, t_Md, rfl, i_Md, by decide, fl_Md_133, rfl, t_Md_ok, n_Md, rfl, by decide +kernel⟩
theorem g_Md_15 : GF "CopyBenchModel" 15 10 2 := ⟨R_Md, F_Md, 47, rfl, i_Md, by decide, fl_Md_15, rfl⟩
theorem g_Md_19 : GF "CopyBenchModel" 19 10 3 := ⟨R_Md, F_Md, 47, rfl, i_Md, by decide, fl_Md_19, rfl⟩
theorem g_Md_22 : GF "CopyBenchModel" 22 10 4 := ⟨R_Md, F_Md, 47, rfl, i_Md, by decide, fl_Md_22, rfl⟩
theorem g_Md_136 : GF "CopyBenchModel" 136 10 22 := ⟨R_Md, F_Md, 47, rfl, i_Md, by decide, fl_Md_136, rfl⟩
theorem g_Md_58 : GF "CopyBenchModel" 58 10 19 := ⟨R_Md, F_Md, 47, rfl, i_Md, by decide, fl_Md_58, rfl⟩
theorem g_Md_140 : GF "CopyBenchModel" 140 10 21 := ⟨R_Md, F_Md, 47, rfl, i_Md, by decide, fl_Md_140, rfl⟩
theorem p_Md_140 : PF "CopyBenchModel" 140 10 21 .int := ⟨R_Md, F_Md, 47, t_Md, rfl, i_Md, by decide, fl_Md_140, rfl, t_Md_ok, n_Md, rfl, by decide +kernel⟩
theorem p_Md_136 : PF "CopyBenchModel" 136 10 22 .boolean := ⟨R_Md, F_Md, 47, t_Md, rfl, i_Md, by decide, fl_Md_136, rfl, t_Md_ok, n_Md, rfl, by decide +kernel⟩
theorem g_Md_130 : GF "CopyBenchModel" 130 10 15 := ⟨R_Md, F_Md, 47, rfl, i_Md, by decide, fl_Md_130, rfl⟩
theorem g_Md_133 : GF "CopyBenchModel" 133 10 16 := ⟨R_Md, F_Md, 47, rfl, i_Md, by decide, fl_Md_133, rfl⟩
theorem g_Md_25 : GF "CopyBenchModel" 25 10 5 := ⟨R_Md, F_Md, 47, rfl, i_Md, by decide, fl_Md_25, rfl⟩
theorem g_Md_28 : GF "CopyBenchModel" 28 10 6 := ⟨R_Md, F_Md, 47, rfl, i_Md, by decide, fl_Md_28, rfl⟩
theorem g_Md_31 : GF "CopyBenchModel" 31 10 7 := ⟨R_Md, F_Md, 47, rfl, i_Md, by decide, fl_Md_31, rfl⟩
theorem g_Md_34 : GF "CopyBenchModel" 34 10 8 := ⟨R_Md, F_Md, 47, rfl, i_Md, by decide, fl_Md_34, rfl⟩
theorem g_Md_37 : GF "CopyBenchModel" 37 10 9 := ⟨R_Md, F_Md, 47, rfl, i_Md, by decide, fl_Md_37, rfl⟩
theorem g_Md_40 : GF "CopyBenchModel" 40 10 10 := ⟨R_Md, F_Md, 47, rfl, i_Md, by decide, fl_Md_40, rfl⟩
theorem g_Md_43 : GF "CopyBenchModel" 43 10 11 := ⟨R_Md, F_Md, 47, rfl, i_Md, by decide, fl_Md_43, rfl⟩
theorem g_Md_46 : GF "CopyBenchModel" 46 10 12 := ⟨R_Md, F_Md, 47, rfl, i_Md, by decide, fl_Md_46, rfl⟩
theorem g_Md_49 : GF "CopyBenchModel" 49 10 13 := ⟨R_Md, F_Md, 47, rfl, i_Md, by decide, fl_Md_49, rfl⟩
theorem g_Md_52 : GF "CopyBenchModel" 52 10 14 := ⟨R_Md, F_Md, 47, rfl, i_Md, by decide, fl_Md_52, rfl⟩
theorem p_Md_151 : PF "CopyBenchModel" 151 10 20 .boolean := ⟨R_Md, F_Md, 47, t_Md, rfl, i_Md, by decide, fl_Md_151, rfl, t_Md_ok, n_Md, rfl, by decide +kernel⟩
theorem g_Md_151 : GF "CopyBenchModel" 151 10 20 := ⟨R_Md, F_Md, 47, rfl, i_Md, by decide, fl_Md_151, rfl⟩
theorem g_Md_172 : GF "CopyBenchModel" 172 10 23 := ⟨R_Md, F_Md, 47, rfl, i_Md, by decide, fl_Md_172, rfl⟩
theorem g_Md_175 : GF "CopyBenchModel" 175 10 18 := ⟨R_Md, F_Md, 47, rfl, i_Md, by decide, fl_Md_175, rfl⟩
theorem g_Md_55 : GF "CopyBenchModel" 55 10 17 := ⟨R_Md, F_Md, 47, rfl, i_Md, by decide, fl_Md_55, rfl⟩
theorem p_Md_182 : PF "CopyBenchModel" 182 10 24 .boolean := ⟨R_Md, F_Md, 47, t_Md, rfl, i_Md, by decide, fl_Md_182, rfl, t_Md_ok, n_Md, rfl, by decide +kernel⟩
theorem p_Md_172 : PF "CopyBenchModel" 172 10 23 .int := ⟨R_Md, F_Md, 47, t_Md, rfl, i_Md, by decide, fl_Md_172, rfl, t_Md_ok, n_Md, rfl, by decide +kernel⟩
theorem g_Md_189 : GF "CopyBenchModel" 189 10 25 := ⟨R_Md, F_Md, 47, rfl, i_Md, by decide, fl_Md_189, rfl⟩
theorem p_Md_189 : PF "CopyBenchModel" 189 10 25 .int := ⟨R_Md, F_Md, 47, t_Md, rfl, i_Md, by decide, fl_Md_189, rfl, t_Md_ok, n_Md, rfl, by decide +kernel⟩
theorem g_Md_182 : GF "CopyBenchModel" 182 10 24 := ⟨R_Md, F_Md, 47, rfl, i_Md, by decide, fl_Md_182, rfl⟩
theorem p_Md_175 : PF "CopyBenchModel" 175 10 18 .int := ⟨R_Md, F_Md, 47, t_Md, rfl, i_Md, by decide, fl_Md_175, rfl, t_Md_ok, n_Md, rfl, by decide +kernel⟩
theorem g_Md_61 : GF "CopyBenchModel" 61 10 26 := ⟨R_Md, F_Md, 47, rfl, i_Md, by decide, fl_Md_61, rfl⟩
theorem g_Md_65 : GF "CopyBenchModel" 65 10 27 := ⟨R_Md, F_Md, 47, rfl, i_Md, by decide, fl_Md_65, rfl⟩
theorem g_Md_248 : GF "CopyBenchModel" 248 10 28 := ⟨R_Md, F_Md, 47, rfl, i_Md, by decide, fl_Md_248, rfl⟩
theorem p_Md_248 : PF "CopyBenchModel" 248 10 28 .long := ⟨R_Md, F_Md, 47, t_Md, rfl, i_Md, by decide, fl_Md_248, rfl, t_Md_ok, n_Md, rfl, by decide +kernel⟩
theorem g_Md_280 : GF "CopyBenchModel" 280 10 29 := ⟨R_Md, F_Md, 47, rfl, i_Md, by decide, fl_Md_280, rfl⟩
theorem g_Md_74 : GF "CopyBenchModel" 74 10 32 := ⟨R_Md, F_Md, 47, rfl, i_Md, by decide, fl_Md_74, rfl⟩
theorem g_Md_77 : GF "CopyBenchModel" 77 10 33 := ⟨R_Md, F_Md, 47, rfl, i_Md, by decide, fl_Md_77, rfl⟩
theorem g_Md_68 : GF "CopyBenchModel" 68 10 30 := ⟨R_Md, F_Md, 47, rfl, i_Md, by decide, fl_Md_68, rfl⟩
theorem g_Md_71 : GF "CopyBenchModel" 71 10 31 := ⟨R_Md, F_Md, 47, rfl, i_Md, by decide, fl_Md_71, rfl⟩
theorem p_Md_280 : PF "CopyBenchModel" 280 10 29 .int := ⟨R_Md, F_Md, 47, t_Md, rfl, i_Md, by decide, fl_Md_280, rfl, t_Md_ok, n_Md, rfl, by decide +kernel⟩
theorem g_Md_80 : GF "CopyBenchModel" 80 10 34 := ⟨R_Md, F_Md, 47, rfl, i_Md, by decide, fl_Md_80, rfl⟩
theorem g_Md_84 : GF "CopyBenchModel" 84 10 35 := ⟨R_Md, F_Md, 47, rfl, i_Md, by decide, fl_Md_84, rfl⟩
theorem g_Md_87 : GF "CopyBenchModel" 87 10 36 := ⟨R_Md, F_Md, 47, rfl, i_Md, by decide, fl_Md_87, rfl⟩
theorem g_Md_90 : GF "CopyBenchModel" 90 10 37 := ⟨R_Md, F_Md, 47, rfl, i_Md, by decide, fl_Md_90, rfl⟩
theorem g_Md_341 : GF "CopyBenchModel" 341 10 38 := ⟨R_Md, F_Md, 47, rfl, i_Md, by decide, fl_Md_341, rfl⟩
theorem p_Md_341 : PF "CopyBenchModel" 341 10 38 .int := ⟨R_Md, F_Md, 47, t_Md, rfl, i_Md, by decide, fl_Md_341, rfl, t_Md_ok, n_Md, rfl, by decide +kernel⟩
theorem g_Md_354 : GF "CopyBenchModel" 354 10 39 := ⟨R_Md, F_Md, 47, rfl, i_Md, by decide, fl_Md_354, rfl⟩
theorem p_Md_354 : PF "CopyBenchModel" 354 10 39 .int := ⟨R_Md, F_Md, 47, t_Md, rfl, i_Md, by decide, fl_Md_354, rfl, t_Md_ok, n_Md, rfl, by decide +kernel⟩
theorem g_Md_93 : GF "CopyBenchModel" 93 10 40 := ⟨R_Md, F_Md, 47, rfl, i_Md, by decide, fl_Md_93, rfl⟩
theorem g_Md_96 : GF "CopyBenchModel" 96 10 41 := ⟨R_Md, F_Md, 47, rfl, i_Md, by decide, fl_Md_96, rfl⟩
theorem g_Md_99 : GF "CopyBenchModel" 99 10 42 := ⟨R_Md, F_Md, 47, rfl, i_Md, by decide, fl_Md_99, rfl⟩
theorem g_Md_107 : GF "CopyBenchModel" 107 10 44 := ⟨R_Md, F_Md, 47, rfl, i_Md, by decide, fl_Md_107, rfl⟩
theorem g_Md_110 : GF "CopyBenchModel" 110 10 45 := ⟨R_Md, F_Md, 47, rfl, i_Md, by decide, fl_Md_110, rfl⟩
theorem g_Md_104 : GF "CopyBenchModel" 104 10 43 := ⟨R_Md, F_Md, 47, rfl, i_Md, by decide, fl_Md_104, rfl⟩
theorem g_Md_113 : GF "CopyBenchModel" 113 10 46 := ⟨R_Md, F_Md, 47, rfl, i_Md, by decide, fl_Md_113, rfl⟩
theorem p_Draws_9 : PF "CopyBench$Draws" 9 0 0 .int := ⟨R_Draws, F_Draws, 1, t_Draws, rfl, i_Draws, by decide, fl_Draws_9, rfl, t_Draws_ok, n_Draws, rfl, by decide +kernel⟩
theorem g_Draws_15 : GF "CopyBench$Draws" 15 1 0 := ⟨R_Exam, F_Exam, 17, rfl, i_Exam, by decide, fl_Draws_15, rfl⟩
theorem g_Draws_38 : GF "CopyBench$Draws" 38 3 1 := ⟨R_Odds, F_Odds, 9, rfl, i_Odds, by decide, fl_Draws_38, rfl⟩
theorem g_Draws_45 : GF "CopyBench$Draws" 45 3 0 := ⟨R_Odds, F_Odds, 9, rfl, i_Odds, by decide, fl_Draws_45, rfl⟩
theorem g_Draws_9 : GF "CopyBench$Draws" 9 0 0 := ⟨R_Draws, F_Draws, 1, rfl, i_Draws, by decide, fl_Draws_9, rfl⟩
theorem p_Exam_9 : PF "CopyBench$Exam" 9 1 0 .int := ⟨R_Exam, F_Exam, 17, t_Exam, rfl, i_Exam, by decide, fl_Exam_9, rfl, t_Exam_ok, n_Exam, rfl, by decide +kernel⟩
theorem p_Exam_15 : PF "CopyBench$Exam" 15 1 1 .int := ⟨R_Exam, F_Exam, 17, t_Exam, rfl, i_Exam, by decide, fl_Exam_15, rfl, t_Exam_ok, n_Exam, rfl, by decide +kernel⟩
theorem p_Exam_18 : PF "CopyBench$Exam" 18 1 2 .int := ⟨R_Exam, F_Exam, 17, t_Exam, rfl, i_Exam, by decide, fl_Exam_18, rfl, t_Exam_ok, n_Exam, rfl, by decide +kernel⟩
theorem p_Exam_21 : PF "CopyBench$Exam" 21 1 3 .int := ⟨R_Exam, F_Exam, 17, t_Exam, rfl, i_Exam, by decide, fl_Exam_21, rfl, t_Exam_ok, n_Exam, rfl, by decide +kernel⟩
theorem g_Exam_45 : GF "CopyBench$Exam" 45 1 10 := ⟨R_Exam, F_Exam, 17, rfl, i_Exam, by decide, fl_Exam_45, rfl⟩
theorem g_Exam_24 : GF "CopyBench$Exam" 24 1 4 := ⟨R_Exam, F_Exam, 17, rfl, i_Exam, by decide, fl_Exam_24, rfl⟩
theorem g_Exam_28 : GF "CopyBench$Exam" 28 1 5 := ⟨R_Exam, F_Exam, 17, rfl, i_Exam, by decide, fl_Exam_28, rfl⟩
theorem g_Exam_33 : GF "CopyBench$Exam" 33 1 6 := ⟨R_Exam, F_Exam, 17, rfl, i_Exam, by decide, fl_Exam_33, rfl⟩
theorem g_Exam_9 : GF "CopyBench$Exam" 9 1 0 := ⟨R_Exam, F_Exam, 17, rfl, i_Exam, by decide, fl_Exam_9, rfl⟩
theorem g_Exam_15 : GF "CopyBench$Exam" 15 1 1 := ⟨R_Exam, F_Exam, 17, rfl, i_Exam, by decide, fl_Exam_15, rfl⟩
theorem g_Exam_18 : GF "CopyBench$Exam" 18 1 2 := ⟨R_Exam, F_Exam, 17, rfl, i_Exam, by decide, fl_Exam_18, rfl⟩
theorem g_Exam_21 : GF "CopyBench$Exam" 21 1 3 := ⟨R_Exam, F_Exam, 17, rfl, i_Exam, by decide, fl_Exam_21, rfl⟩
theorem g_Exam_36 : GF "CopyBench$Exam" 36 1 7 := ⟨R_Exam, F_Exam, 17, rfl, i_Exam, by decide, fl_Exam_36, rfl⟩
theorem g_Exam_39 : GF "CopyBench$Exam" 39 1 8 := ⟨R_Exam, F_Exam, 17, rfl, i_Exam, by decide, fl_Exam_39, rfl⟩
theorem g_Exam_42 : GF "CopyBench$Exam" 42 1 9 := ⟨R_Exam, F_Exam, 17, rfl, i_Exam, by decide, fl_Exam_42, rfl⟩
theorem g_Exam_48 : GF "CopyBench$Exam" 48 1 11 := ⟨R_Exam, F_Exam, 17, rfl, i_Exam, by decide, fl_Exam_48, rfl⟩
theorem g_Exam_51 : GF "CopyBench$Exam" 51 1 12 := ⟨R_Exam, F_Exam, 17, rfl, i_Exam, by decide, fl_Exam_51, rfl⟩
theorem g_Exam_54 : GF "CopyBench$Exam" 54 1 13 := ⟨R_Exam, F_Exam, 17, rfl, i_Exam, by decide, fl_Exam_54, rfl⟩
theorem g_Exam_58 : GF "CopyBench$Exam" 58 1 14 := ⟨R_Exam, F_Exam, 17, rfl, i_Exam, by decide, fl_Exam_58, rfl⟩
theorem g_Exam_61 : GF "CopyBench$Exam" 61 1 15 := ⟨R_Exam, F_Exam, 17, rfl, i_Exam, by decide, fl_Exam_61, rfl⟩
theorem g_Exam_64 : GF "CopyBench$Exam" 64 1 16 := ⟨R_Exam, F_Exam, 17, rfl, i_Exam, by decide, fl_Exam_64, rfl⟩
theorem g_Links_9 : GF "CopyBench$Links" 9 2 0 := ⟨R_Links, F_Links, 1, rfl, i_Links, by decide, fl_Links_9, rfl⟩
theorem g_Links_15 : GF "CopyBench$Links" 15 4 1 := ⟨R_Ranking, F_Ranking, 8, rfl, i_Ranking, by decide, fl_Links_15, rfl⟩
theorem g_Links_21 : GF "CopyBench$Links" 21 4 2 := ⟨R_Ranking, F_Ranking, 8, rfl, i_Ranking, by decide, fl_Links_21, rfl⟩
theorem g_Links_24 : GF "CopyBench$Links" 24 4 3 := ⟨R_Ranking, F_Ranking, 8, rfl, i_Ranking, by decide, fl_Links_24, rfl⟩
theorem p_Odds_15 : PF "CopyBench$Odds" 15 3 1 .int := ⟨R_Odds, F_Odds, 9, t_Odds, rfl, i_Odds, by decide, fl_Odds_15, rfl, t_Odds_ok, n_Odds, rfl, by decide +kernel⟩
theorem p_Odds_19 : PF "CopyBench$Odds" 19 3 2 .long := ⟨R_Odds, F_Odds, 9, t_Odds, rfl, i_Odds, by decide, fl_Odds_19, rfl, t_Odds_ok, n_Odds, rfl, by decide +kernel⟩
theorem p_Odds_27 : PF "CopyBench$Odds" 27 3 4 .long := ⟨R_Odds, F_Odds, 9, t_Odds, rfl, i_Odds, by decide, fl_Odds_27, rfl, t_Odds_ok, n_Odds, rfl, by decide +kernel⟩
theorem p_Odds_30 : PF "CopyBench$Odds" 30 3 5 .int := ⟨R_Odds, F_Odds, 9, t_Odds, rfl, i_Odds, by decide, fl_Odds_30, rfl, t_Odds_ok, n_Odds, rfl, by decide +kernel⟩
theorem p_Odds_33 : PF "CopyBench$Odds" 33 3 6 .long := ⟨R_Odds, F_Odds, 9, t_Odds, rfl, i_Odds, by decide, fl_Odds_33, rfl, t_Odds_ok, n_Odds, rfl, by decide +kernel⟩
theorem p_Odds_36 : PF "CopyBench$Odds" 36 3 7 .long := ⟨R_Odds, F_Odds, 9, t_Odds, rfl, i_Odds, by decide, fl_Odds_36, rfl, t_Odds_ok, n_Odds, rfl, by decide +kernel⟩
theorem p_Odds_39 : PF "CopyBench$Odds" 39 3 8 .long := ⟨R_Odds, F_Odds, 9, t_Odds, rfl, i_Odds, by decide, fl_Odds_39, rfl, t_Odds_ok, n_Odds, rfl, by decide +kernel⟩
theorem g_Odds_23 : GF "CopyBench$Odds" 23 3 3 := ⟨R_Odds, F_Odds, 9, rfl, i_Odds, by decide, fl_Odds_23, rfl⟩
theorem g_Odds_42 : GF "CopyBench$Odds" 42 1 10 := ⟨R_Exam, F_Exam, 17, rfl, i_Exam, by decide, fl_Odds_42, rfl⟩
theorem g_Odds_47 : GF "CopyBench$Odds" 47 1 0 := ⟨R_Exam, F_Exam, 17, rfl, i_Exam, by decide, fl_Odds_47, rfl⟩
theorem g_Odds_30 : GF "CopyBench$Odds" 30 3 5 := ⟨R_Odds, F_Odds, 9, rfl, i_Odds, by decide, fl_Odds_30, rfl⟩
theorem g_Odds_27 : GF "CopyBench$Odds" 27 3 4 := ⟨R_Odds, F_Odds, 9, rfl, i_Odds, by decide, fl_Odds_27, rfl⟩
theorem g_Odds_85 : GF "CopyBench$Odds" 85 1 5 := ⟨R_Exam, F_Exam, 17, rfl, i_Exam, by decide, fl_Odds_85, rfl⟩
theorem g_Odds_9 : GF "CopyBench$Odds" 9 3 0 := ⟨R_Odds, F_Odds, 9, rfl, i_Odds, by decide, fl_Odds_9, rfl⟩
theorem g_Odds_88 : GF "CopyBench$Odds" 88 1 6 := ⟨R_Exam, F_Exam, 17, rfl, i_Exam, by decide, fl_Odds_88, rfl⟩
theorem g_Odds_15 : GF "CopyBench$Odds" 15 3 1 := ⟨R_Odds, F_Odds, 9, rfl, i_Odds, by decide, fl_Odds_15, rfl⟩
theorem g_Odds_19 : GF "CopyBench$Odds" 19 3 2 := ⟨R_Odds, F_Odds, 9, rfl, i_Odds, by decide, fl_Odds_19, rfl⟩
theorem g_Odds_95 : GF "CopyBench$Odds" 95 1 1 := ⟨R_Exam, F_Exam, 17, rfl, i_Exam, by decide, fl_Odds_95, rfl⟩
theorem g_Odds_98 : GF "CopyBench$Odds" 98 1 7 := ⟨R_Exam, F_Exam, 17, rfl, i_Exam, by decide, fl_Odds_98, rfl⟩
theorem g_Odds_39 : GF "CopyBench$Odds" 39 3 8 := ⟨R_Odds, F_Odds, 9, rfl, i_Odds, by decide, fl_Odds_39, rfl⟩
theorem g_Odds_33 : GF "CopyBench$Odds" 33 3 6 := ⟨R_Odds, F_Odds, 9, rfl, i_Odds, by decide, fl_Odds_33, rfl⟩
theorem g_Odds_36 : GF "CopyBench$Odds" 36 3 7 := ⟨R_Odds, F_Odds, 9, rfl, i_Odds, by decide, fl_Odds_36, rfl⟩
theorem g_Odds_101 : GF "CopyBench$Odds" 101 1 4 := ⟨R_Exam, F_Exam, 17, rfl, i_Exam, by decide, fl_Odds_101, rfl⟩
theorem p_Ranking_9 : PF "CopyBench$Ranking" 9 4 0 .int := ⟨R_Ranking, F_Ranking, 8, t_Ranking, rfl, i_Ranking, by decide, fl_Ranking_9, rfl, t_Ranking_ok, n_Ranking, rfl, by decide +kernel⟩
theorem p_Ranking_15 : PF "CopyBench$Ranking" 15 4 1 .int := ⟨R_Ranking, F_Ranking, 8, t_Ranking, rfl, i_Ranking, by decide, fl_Ranking_15, rfl, t_Ranking_ok, n_Ranking, rfl, by decide +kernel⟩
theorem g_Ranking_9 : GF "CopyBench$Ranking" 9 4 0 := ⟨R_Ranking, F_Ranking, 8, rfl, i_Ranking, by decide, fl_Ranking_9, rfl⟩
theorem g_Ranking_42 : GF "CopyBench$Ranking" 42 1 1 := ⟨R_Exam, F_Exam, 17, rfl, i_Exam, by decide, fl_Ranking_42, rfl⟩
theorem g_Ranking_59 : GF "CopyBench$Ranking" 59 1 10 := ⟨R_Exam, F_Exam, 17, rfl, i_Exam, by decide, fl_Ranking_59, rfl⟩
theorem g_Ranking_18 : GF "CopyBench$Ranking" 18 4 2 := ⟨R_Ranking, F_Ranking, 8, rfl, i_Ranking, by decide, fl_Ranking_18, rfl⟩
theorem g_Ranking_22 : GF "CopyBench$Ranking" 22 4 3 := ⟨R_Ranking, F_Ranking, 8, rfl, i_Ranking, by decide, fl_Ranking_22, rfl⟩
theorem g_Ranking_74 : GF "CopyBench$Ranking" 74 1 2 := ⟨R_Exam, F_Exam, 17, rfl, i_Exam, by decide, fl_Ranking_74, rfl⟩
theorem g_Ranking_77 : GF "CopyBench$Ranking" 77 1 11 := ⟨R_Exam, F_Exam, 17, rfl, i_Exam, by decide, fl_Ranking_77, rfl⟩
theorem g_Ranking_80 : GF "CopyBench$Ranking" 80 1 12 := ⟨R_Exam, F_Exam, 17, rfl, i_Exam, by decide, fl_Ranking_80, rfl⟩
theorem g_Ranking_15 : GF "CopyBench$Ranking" 15 4 1 := ⟨R_Ranking, F_Ranking, 8, rfl, i_Ranking, by decide, fl_Ranking_15, rfl⟩
theorem g_Ranking_86 : GF "CopyBench$Ranking" 86 1 13 := ⟨R_Exam, F_Exam, 17, rfl, i_Exam, by decide, fl_Ranking_86, rfl⟩
theorem g_Ranking_35 : GF "CopyBench$Ranking" 35 4 6 := ⟨R_Ranking, F_Ranking, 8, rfl, i_Ranking, by decide, fl_Ranking_35, rfl⟩
theorem g_Ranking_39 : GF "CopyBench$Ranking" 39 4 7 := ⟨R_Ranking, F_Ranking, 8, rfl, i_Ranking, by decide, fl_Ranking_39, rfl⟩
theorem g_Ranking_25 : GF "CopyBench$Ranking" 25 4 4 := ⟨R_Ranking, F_Ranking, 8, rfl, i_Ranking, by decide, fl_Ranking_25, rfl⟩
theorem g_Ranking_29 : GF "CopyBench$Ranking" 29 4 5 := ⟨R_Ranking, F_Ranking, 8, rfl, i_Ranking, by decide, fl_Ranking_29, rfl⟩
theorem p_Ratio_7 : PF "CopyBench$Ratio" 7 5 0 .long := ⟨R_Ratio, F_Ratio, 2, t_Ratio, rfl, i_Ratio, by decide, fl_Ratio_7, rfl, t_Ratio_ok, n_Ratio, rfl, by decide +kernel⟩
theorem p_Ratio_13 : PF "CopyBench$Ratio" 13 5 1 .long := ⟨R_Ratio, F_Ratio, 2, t_Ratio, rfl, i_Ratio, by decide, fl_Ratio_13, rfl, t_Ratio_ok, n_Ratio, rfl, by decide +kernel⟩
theorem g_Ratio_7 : GF "CopyBench$Ratio" 7 5 0 := ⟨R_Ratio, F_Ratio, 2, rfl, i_Ratio, by decide, fl_Ratio_7, rfl⟩
theorem g_Ratio_13 : GF "CopyBench$Ratio" 13 5 1 := ⟨R_Ratio, F_Ratio, 2, rfl, i_Ratio, by decide, fl_Ratio_13, rfl⟩
theorem p_Seating_7 : PF "CopyBench$Seating" 7 6 0 .int := ⟨R_Seating, F_Seating, 5, t_Seating, rfl, i_Seating, by decide, fl_Seating_7, rfl, t_Seating_ok, n_Seating, rfl, by decide +kernel⟩
theorem g_Seating_48 : GF "CopyBench$Seating" 48 1 1 := ⟨R_Exam, F_Exam, 17, rfl, i_Exam, by decide, fl_Seating_48, rfl⟩
theorem g_Seating_7 : GF "CopyBench$Seating" 7 6 0 := ⟨R_Seating, F_Seating, 5, rfl, i_Seating, by decide, fl_Seating_7, rfl⟩
theorem g_Seating_13 : GF "CopyBench$Seating" 13 6 1 := ⟨R_Seating, F_Seating, 5, rfl, i_Seating, by decide, fl_Seating_13, rfl⟩
theorem g_Seating_17 : GF "CopyBench$Seating" 17 6 2 := ⟨R_Seating, F_Seating, 5, rfl, i_Seating, by decide, fl_Seating_17, rfl⟩
theorem g_Seating_20 : GF "CopyBench$Seating" 20 6 3 := ⟨R_Seating, F_Seating, 5, rfl, i_Seating, by decide, fl_Seating_20, rfl⟩
theorem g_Seating_23 : GF "CopyBench$Seating" 23 6 4 := ⟨R_Seating, F_Seating, 5, rfl, i_Seating, by decide, fl_Seating_23, rfl⟩
theorem p_Tape_9 : PF "CopyBench$Tape" 9 7 0 .int := ⟨R_Tape, F_Tape, 3, t_Tape, rfl, i_Tape, by decide, fl_Tape_9, rfl, t_Tape_ok, n_Tape, rfl, by decide +kernel⟩
theorem p_Tape_13 : PF "CopyBench$Tape" 13 7 1 .int := ⟨R_Tape, F_Tape, 3, t_Tape, rfl, i_Tape, by decide, fl_Tape_13, rfl, t_Tape_ok, n_Tape, rfl, by decide +kernel⟩
theorem g_Tape_16 : GF "CopyBench$Tape" 16 7 2 := ⟨R_Tape, F_Tape, 3, rfl, i_Tape, by decide, fl_Tape_16, rfl⟩
theorem g_Tape_9 : GF "CopyBench$Tape" 9 7 0 := ⟨R_Tape, F_Tape, 3, rfl, i_Tape, by decide, fl_Tape_9, rfl⟩
theorem g_Tape_13 : GF "CopyBench$Tape" 13 7 1 := ⟨R_Tape, F_Tape, 3, rfl, i_Tape, by decide, fl_Tape_13, rfl⟩
theorem p_Text_9 : PF "CopyBench$Text" 9 8 0 .int := ⟨R_Text, F_Text, 2, t_Text, rfl, i_Text, by decide, fl_Text_9, rfl, t_Text_ok, n_Text, rfl, by decide +kernel⟩
theorem g_Text_9 : GF "CopyBench$Text" 9 8 0 := ⟨R_Text, F_Text, 2, rfl, i_Text, by decide, fl_Text_9, rfl⟩
theorem g_Text_15 : GF "CopyBench$Text" 15 8 1 := ⟨R_Text, F_Text, 2, rfl, i_Text, by decide, fl_Text_15, rfl⟩
theorem g_Text_25 : GF "CopyBench$Text" 25 1 0 := ⟨R_Exam, F_Exam, 17, rfl, i_Exam, by decide, fl_Text_25, rfl⟩
theorem g_Text_34 : GF "CopyBench$Text" 34 1 7 := ⟨R_Exam, F_Exam, 17, rfl, i_Exam, by decide, fl_Text_34, rfl⟩
theorem mv_Cb_items : MV y_Cb_items k_Cb_items 3 (Option.some FieldType.int) 1 9 := ⟨co_Cb_items, im_Cb_items, se_Cb_items, ini_Cb, by decide +kernel, rfl⟩
theorem mv_Cb_right : MV y_Cb_right k_Cb_right 4 (Option.some FieldType.int) 2 9 := ⟨co_Cb_right, im_Cb_right, se_Cb_right, ini_Cb, by decide +kernel, rfl⟩
theorem mv_Cb_model : MV y_Cb_model k_Cb_model 4 (Option.some FieldType.int) 2 9 := ⟨co_Cb_model, im_Cb_model, se_Cb_model, ini_Cb, by decide +kernel, rfl⟩
theorem mv_Cb_part : MV y_Cb_part k_Cb_part 5 (Option.some FieldType.int) 3 9 := ⟨co_Cb_part, im_Cb_part, se_Cb_part, ini_Cb, by decide +kernel, rfl⟩
theorem mv_Cb_candidate : MV y_Cb_candidate k_Cb_candidate 1 (Option.some FieldType.int) 0 9 := ⟨co_Cb_candidate, im_Cb_candidate, se_Cb_candidate, ini_Cb, by decide +kernel, rfl⟩
theorem mv_Cb_gives : MV y_Cb_gives k_Cb_gives 5 (Option.some FieldType.int) 3 9 := ⟨co_Cb_gives, im_Cb_gives, se_Cb_gives, ini_Cb, by decide +kernel, rfl⟩
theorem mv_Cb_seat : MV y_Cb_seat k_Cb_seat 5 (Option.some FieldType.int) 3 9 := ⟨co_Cb_seat, im_Cb_seat, se_Cb_seat, ini_Cb, by decide +kernel, rfl⟩
theorem mv_Cb_feed : MV y_Cb_feed k_Cb_feed 2 (Option.some FieldType.int) 1 9 := ⟨co_Cb_feed, im_Cb_feed, se_Cb_feed, ini_Cb, by decide +kernel, rfl⟩
theorem mv_Cb_read : MV y_Cb_read k_Cb_read 2 (Option.some FieldType.int) 0 9 := ⟨co_Cb_read, im_Cb_read, se_Cb_read, ini_Cb, by decide +kernel, rfl⟩
theorem mv_Cb_use : MV y_Cb_use k_Cb_use 4 (Option.some FieldType.int) 2 9 := ⟨co_Cb_use, im_Cb_use, se_Cb_use, ini_Cb, by decide +kernel, rfl⟩
theorem mv_Cb_answer : MV y_Cb_answer k_Cb_answer 3 (Option.some FieldType.int) 2 9 := ⟨co_Cb_answer, im_Cb_answer, se_Cb_answer, ini_Cb, by decide +kernel, rfl⟩
theorem mv_Cb_of : MV y_Cb_of k_Cb_of 3 (Option.some FieldType.int) 2 9 := ⟨co_Cb_of, im_Cb_of, se_Cb_of, ini_Cb, by decide +kernel, rfl⟩
theorem mv_Cb_itemOf : MV y_Cb_itemOf k_Cb_itemOf 3 (Option.some FieldType.int) 2 9 := ⟨co_Cb_itemOf, im_Cb_itemOf, se_Cb_itemOf, ini_Cb, by decide +kernel, rfl⟩
theorem mv_Cb_taken : MV y_Cb_taken k_Cb_taken 4 (Option.some FieldType.int) 2 9 := ⟨co_Cb_taken, im_Cb_taken, se_Cb_taken, ini_Cb, by decide +kernel, rfl⟩
theorem mv_Cb_share : MV y_Cb_share k_Cb_share 5 (Option.some FieldType.int) 4 9 := ⟨co_Cb_share, im_Cb_share, se_Cb_share, ini_Cb, by decide +kernel, rfl⟩
theorem mv_Cb_alike : MV y_Cb_alike k_Cb_alike 3 (Option.some FieldType.int) 2 9 := ⟨co_Cb_alike, im_Cb_alike, se_Cb_alike, ini_Cb, by decide +kernel, rfl⟩
theorem mv_Cb_odds : MV y_Cb_odds k_Cb_odds 5 (Option.some FieldType.long) 4 9 := ⟨co_Cb_odds, im_Cb_odds, se_Cb_odds, ini_Cb, by decide +kernel, rfl⟩
theorem mv_Cb_just : MV y_Cb_just k_Cb_just 6 (Option.some FieldType.long) 5 9 := ⟨co_Cb_just, im_Cb_just, se_Cb_just, ini_Cb, by decide +kernel, rfl⟩
theorem mv_Cb_source : MV y_Cb_source k_Cb_source 4 (Option.some FieldType.int) 2 9 := ⟨co_Cb_source, im_Cb_source, se_Cb_source, ini_Cb, by decide +kernel, rfl⟩
theorem mv_Cb_without : MV y_Cb_without k_Cb_without 5 (Option.some FieldType.long) 4 9 := ⟨co_Cb_without, im_Cb_without, se_Cb_without, ini_Cb, by decide +kernel, rfl⟩
theorem mv_Cb_key : MV y_Cb_key k_Cb_key 5 (Option.some FieldType.int) 2 9 := ⟨co_Cb_key, im_Cb_key, se_Cb_key, ini_Cb, by decide +kernel, rfl⟩
theorem mv_Cb_pairs : MV y_Cb_pairs k_Cb_pairs 3 (Option.some FieldType.int) 2 9 := ⟨co_Cb_pairs, im_Cb_pairs, se_Cb_pairs, ini_Cb, by decide +kernel, rfl⟩
theorem mv_Cb_pair : MV y_Cb_pair k_Cb_pair 3 (Option.some FieldType.int) 2 9 := ⟨co_Cb_pair, im_Cb_pair, se_Cb_pair, ini_Cb, by decide +kernel, rfl⟩
theorem mv_Cb_pairOdds : MV y_Cb_pairOdds k_Cb_pairOdds 3 (Option.some FieldType.long) 2 9 := ⟨co_Cb_pairOdds, im_Cb_pairOdds, se_Cb_pairOdds, ini_Cb, by decide +kernel, rfl⟩
theorem mv_Cb_rank : MV y_Cb_rank k_Cb_rank 3 (Option.some FieldType.int) 2 9 := ⟨co_Cb_rank, im_Cb_rank, se_Cb_rank, ini_Cb, by decide +kernel, rfl⟩
theorem mv_Cb_linked : MV y_Cb_linked k_Cb_linked 2 (Option.some FieldType.int) 1 9 := ⟨co_Cb_linked, im_Cb_linked, se_Cb_linked, ini_Cb, by decide +kernel, rfl⟩
theorem mv_Cb_chain : MV y_Cb_chain k_Cb_chain 2 (Option.some FieldType.int) 1 9 := ⟨co_Cb_chain, im_Cb_chain, se_Cb_chain, ini_Cb, by decide +kernel, rfl⟩
theorem mv_Cb_group : MV y_Cb_group k_Cb_group 2 (Option.some FieldType.int) 1 9 := ⟨co_Cb_group, im_Cb_group, se_Cb_group, ini_Cb, by decide +kernel, rfl⟩
theorem mv_Cb_seated : MV y_Cb_seated k_Cb_seated 3 (Option.some FieldType.long) 2 9 := ⟨co_Cb_seated, im_Cb_seated, se_Cb_seated, ini_Cb, by decide +kernel, rfl⟩
theorem mv_Cb_drawn : MV y_Cb_drawn k_Cb_drawn 4 (Option.some FieldType.int) 3 9 := ⟨co_Cb_drawn, im_Cb_drawn, se_Cb_drawn, ini_Cb, by decide +kernel, rfl⟩
theorem mv_Cb_chance : MV y_Cb_chance k_Cb_chance 8 (Option.some FieldType.long) 5 9 := ⟨co_Cb_chance, im_Cb_chance, se_Cb_chance, ini_Cb, by decide +kernel, rfl⟩
theorem mv_Cb_see : MV y_Cb_see k_Cb_see 4 (Option.some FieldType.int) 3 9 := ⟨co_Cb_see, im_Cb_see, se_Cb_see, ini_Cb, by decide +kernel, rfl⟩
theorem mv_Cb_fits : MV y_Cb_fits k_Cb_fits 5 (Option.some FieldType.int) 1 9 := ⟨co_Cb_fits, im_Cb_fits, se_Cb_fits, ini_Cb, by decide +kernel, rfl⟩
theorem mv_Cb_mean : MV y_Cb_mean k_Cb_mean 3 (Option.some FieldType.long) 1 9 := ⟨co_Cb_mean, im_Cb_mean, se_Cb_mean, ini_Cb, by decide +kernel, rfl⟩
theorem mv_Cb_plan : MV y_Cb_plan k_Cb_plan 4 (Option.some FieldType.int) 3 9 := ⟨co_Cb_plan, im_Cb_plan, se_Cb_plan, ini_Cb, by decide +kernel, rfl⟩
theorem mv_Cb_ends : MV y_Cb_ends k_Cb_ends 1 (Option.some FieldType.int) 0 9 := ⟨co_Cb_ends, im_Cb_ends, se_Cb_ends, ini_Cb, by decide +kernel, rfl⟩
theorem mv_Cb_judge : MV y_Cb_judge k_Cb_judge 6 (Option.some FieldType.int) 3 9 := ⟨co_Cb_judge, im_Cb_judge, se_Cb_judge, ini_Cb, by decide +kernel, rfl⟩
theorem mv_Cb_image : MV y_Cb_image k_Cb_image 1 (Option.some FieldType.int) 0 9 := ⟨co_Cb_image, im_Cb_image, se_Cb_image, ini_Cb, by decide +kernel, rfl⟩
theorem mv_Cb_undo : MV y_Cb_undo k_Cb_undo 1 (Option.some FieldType.int) 0 9 := ⟨co_Cb_undo, im_Cb_undo, se_Cb_undo, ini_Cb, by decide +kernel, rfl⟩
theorem mv_Cb_count : MV y_Cb_count k_Cb_count 2 (Option.some FieldType.int) 1 9 := ⟨co_Cb_count, im_Cb_count, se_Cb_count, ini_Cb, by decide +kernel, rfl⟩
theorem mv_Cb_tape : MV y_Cb_tape k_Cb_tape 4 (Option.some FieldType.int) 3 9 := ⟨co_Cb_tape, im_Cb_tape, se_Cb_tape, ini_Cb, by decide +kernel, rfl⟩
theorem mv_Cb_item : MV y_Cb_item k_Cb_item 6 (Option.some FieldType.int) 3 9 := ⟨co_Cb_item, im_Cb_item, se_Cb_item, ini_Cb, by decide +kernel, rfl⟩
theorem mv_Cb_peek : MV y_Cb_peek k_Cb_peek 3 (Option.some FieldType.long) 2 9 := ⟨co_Cb_peek, im_Cb_peek, se_Cb_peek, ini_Cb, by decide +kernel, rfl⟩
theorem mv_Cb_shift : MV y_Cb_shift k_Cb_shift 8 (Option.some FieldType.int) 5 9 := ⟨co_Cb_shift, im_Cb_shift, se_Cb_shift, ini_Cb, by decide +kernel, rfl⟩
theorem mv_Cb_rankNow : MV y_Cb_rankNow k_Cb_rankNow 1 (Option.none : Option FieldType) 0 9 := ⟨co_Cb_rankNow, im_Cb_rankNow, se_Cb_rankNow, ini_Cb, by decide +kernel, rfl⟩
theorem mv_Cb_linkNow : MV y_Cb_linkNow k_Cb_linkNow 1 (Option.none : Option FieldType) 0 9 := ⟨co_Cb_linkNow, im_Cb_linkNow, se_Cb_linkNow, ini_Cb, by decide +kernel, rfl⟩
theorem mv_Cb_orNeither : MS y_Cb_orNeither k_Cb_orNeither 1 (Option.some FieldType.int) 1 := ⟨co_Cb_orNeither, st_Cb_orNeither, ini_Cb, by decide +kernel⟩
theorem mv_Cb_isAnswer : MS y_Cb_isAnswer k_Cb_isAnswer 1 (Option.some FieldType.boolean) 1 := ⟨co_Cb_isAnswer, st_Cb_isAnswer, ini_Cb, by decide +kernel⟩
theorem mv_Cb_isKind : MS y_Cb_isKind k_Cb_isKind 1 (Option.some FieldType.boolean) 1 := ⟨co_Cb_isKind, st_Cb_isKind, ini_Cb, by decide +kernel⟩
theorem mv_Cb_isSupposition : MS y_Cb_isSupposition k_Cb_isSupposition 1 (Option.some FieldType.boolean) 1 := ⟨co_Cb_isSupposition, st_Cb_isSupposition, ini_Cb, by decide +kernel⟩
theorem mv_Cb_isPart : MS y_Cb_isPart k_Cb_isPart 1 (Option.some FieldType.boolean) 1 := ⟨co_Cb_isPart, st_Cb_isPart, ini_Cb, by decide +kernel⟩
theorem mv_Cb_isTape : MS y_Cb_isTape k_Cb_isTape 1 (Option.some FieldType.boolean) 1 := ⟨co_Cb_isTape, st_Cb_isTape, ini_Cb, by decide +kernel⟩
theorem mv_Cb_isOfSort : MS y_Cb_isOfSort k_Cb_isOfSort 2 (Option.some FieldType.boolean) 2 := ⟨co_Cb_isOfSort, st_Cb_isOfSort, ini_Cb, by decide +kernel⟩
theorem mv_Cb_leastUse : MS y_Cb_leastUse k_Cb_leastUse 1 (Option.some FieldType.int) 1 := ⟨co_Cb_leastUse, st_Cb_leastUse, ini_Cb, by decide +kernel⟩
theorem mv_Cb_mostUse : MS y_Cb_mostUse k_Cb_mostUse 1 (Option.some FieldType.int) 1 := ⟨co_Cb_mostUse, st_Cb_mostUse, ini_Cb, by decide +kernel⟩
theorem mv_Md_in : MS y_Md_in k_Md_in 6 (Option.some FieldType.boolean) 3 := ⟨co_Md_in, st_Md_in, ini_Md, by decide +kernel⟩
theorem mv_Md_isItem : MV y_Md_isItem k_Md_isItem 2 (Option.some FieldType.boolean) 1 10 := ⟨co_Md_isItem, im_Md_isItem, se_Md_isItem, ini_Md, by decide +kernel, rfl⟩
theorem mv_Md_isOne : MV y_Md_isOne k_Md_isOne 2 (Option.some FieldType.boolean) 1 10 := ⟨co_Md_isOne, im_Md_isOne, se_Md_isOne, ini_Md, by decide +kernel, rfl⟩
theorem mv_Md_isTwo : MV y_Md_isTwo k_Md_isTwo 3 (Option.some FieldType.boolean) 2 10 := ⟨co_Md_isTwo, im_Md_isTwo, se_Md_isTwo, ini_Md, by decide +kernel, rfl⟩
theorem mv_Md_begins : MV y_Md_begins k_Md_begins 2 (Option.none : Option FieldType) 0 10 := ⟨co_Md_begins, im_Md_begins, se_Md_begins, ini_Md, by decide +kernel, rfl⟩
theorem mv_Md_passes : MV y_Md_passes k_Md_passes 3 (Option.some FieldType.int) 1 10 := ⟨co_Md_passes, im_Md_passes, se_Md_passes, ini_Md, by decide +kernel, rfl⟩
theorem mv_Md_passesRow : MV y_Md_passesRow k_Md_passesRow 3 (Option.none : Option FieldType) 1 10 := ⟨co_Md_passesRow, im_Md_passesRow, se_Md_passesRow, ini_Md, by decide +kernel, rfl⟩
theorem mv_Md_passesAll : MV y_Md_passesAll k_Md_passesAll 2 (Option.some FieldType.int) 1 10 := ⟨co_Md_passesAll, im_Md_passesAll, se_Md_passesAll, ini_Md, by decide +kernel, rfl⟩
theorem mv_Md_image : MV y_Md_image k_Md_image 1 (Option.some FieldType.int) 0 10 := ⟨co_Md_image, im_Md_image, se_Md_image, ini_Md, by decide +kernel, rfl⟩
theorem mv_Md_undo : MV y_Md_undo k_Md_undo 1 (Option.some FieldType.int) 0 10 := ⟨co_Md_undo, im_Md_undo, se_Md_undo, ini_Md, by decide +kernel, rfl⟩
theorem mv_Md_items : MV y_Md_items k_Md_items 3 (Option.some FieldType.int) 1 10 := ⟨co_Md_items, im_Md_items, se_Md_items, ini_Md, by decide +kernel, rfl⟩
theorem mv_Md_right : MV y_Md_right k_Md_right 4 (Option.some FieldType.int) 2 10 := ⟨co_Md_right, im_Md_right, se_Md_right, ini_Md, by decide +kernel, rfl⟩
theorem mv_Md_model : MV y_Md_model k_Md_model 4 (Option.some FieldType.int) 2 10 := ⟨co_Md_model, im_Md_model, se_Md_model, ini_Md, by decide +kernel, rfl⟩
theorem mv_Md_part : MV y_Md_part k_Md_part 5 (Option.some FieldType.int) 3 10 := ⟨co_Md_part, im_Md_part, se_Md_part, ini_Md, by decide +kernel, rfl⟩
theorem mv_Md_candidate : MV y_Md_candidate k_Md_candidate 2 (Option.some FieldType.int) 0 10 := ⟨co_Md_candidate, im_Md_candidate, se_Md_candidate, ini_Md, by decide +kernel, rfl⟩
theorem mv_Md_told : MS y_Md_told k_Md_told 1 (Option.some FieldType.int) 1 := ⟨co_Md_told, st_Md_told, ini_Md, by decide +kernel⟩
theorem mv_Md_gives : MV y_Md_gives k_Md_gives 5 (Option.some FieldType.int) 3 10 := ⟨co_Md_gives, im_Md_gives, se_Md_gives, ini_Md, by decide +kernel, rfl⟩
theorem mv_Md_seat : MV y_Md_seat k_Md_seat 5 (Option.some FieldType.int) 3 10 := ⟨co_Md_seat, im_Md_seat, se_Md_seat, ini_Md, by decide +kernel, rfl⟩
theorem mv_Md_here : MV y_Md_here k_Md_here 1 (Option.some FieldType.int) 0 10 := ⟨co_Md_here, im_Md_here, se_Md_here, ini_Md, by decide +kernel, rfl⟩
theorem mv_Md_clause : MV y_Md_clause k_Md_clause 4 (Option.none : Option FieldType) 1 10 := ⟨co_Md_clause, im_Md_clause, se_Md_clause, ini_Md, by decide +kernel, rfl⟩
theorem mv_Md_goesThrough : MV y_Md_goesThrough k_Md_goesThrough 2 (Option.none : Option FieldType) 1 10 := ⟨co_Md_goesThrough, im_Md_goesThrough, se_Md_goesThrough, ini_Md, by decide +kernel, rfl⟩
theorem mv_Md_feed : MV y_Md_feed k_Md_feed 2 (Option.some FieldType.int) 1 10 := ⟨co_Md_feed, im_Md_feed, se_Md_feed, ini_Md, by decide +kernel, rfl⟩
theorem mv_Md_read : MV y_Md_read k_Md_read 2 (Option.some FieldType.int) 0 10 := ⟨co_Md_read, im_Md_read, se_Md_read, ini_Md, by decide +kernel, rfl⟩
theorem mv_Md_isUse : MS y_Md_isUse k_Md_isUse 2 (Option.some FieldType.boolean) 2 := ⟨co_Md_isUse, st_Md_isUse, ini_Md, by decide +kernel⟩
theorem mv_Md_use : MV y_Md_use k_Md_use 4 (Option.some FieldType.int) 2 10 := ⟨co_Md_use, im_Md_use, se_Md_use, ini_Md, by decide +kernel, rfl⟩
theorem mv_Md_answer : MV y_Md_answer k_Md_answer 3 (Option.some FieldType.int) 2 10 := ⟨co_Md_answer, im_Md_answer, se_Md_answer, ini_Md, by decide +kernel, rfl⟩
theorem mv_Md_gave : MV y_Md_gave k_Md_gave 6 (Option.some FieldType.int) 2 10 := ⟨co_Md_gave, im_Md_gave, se_Md_gave, ini_Md, by decide +kernel, rfl⟩
theorem mv_Md_of : MV y_Md_of k_Md_of 3 (Option.some FieldType.int) 2 10 := ⟨co_Md_of, im_Md_of, se_Md_of, ini_Md, by decide +kernel, rfl⟩
theorem mv_Md_gavers : MV y_Md_gavers k_Md_gavers 7 (Option.some FieldType.int) 4 10 := ⟨co_Md_gavers, im_Md_gavers, se_Md_gavers, ini_Md, by decide +kernel, rfl⟩
theorem mv_Md_givers : MV y_Md_givers k_Md_givers 2 (Option.some FieldType.int) 1 10 := ⟨co_Md_givers, im_Md_givers, se_Md_givers, ini_Md, by decide +kernel, rfl⟩
theorem mv_Md_likedWrong : MV y_Md_likedWrong k_Md_likedWrong 4 (Option.some FieldType.int) 1 10 := ⟨co_Md_likedWrong, im_Md_likedWrong, se_Md_likedWrong, ini_Md, by decide +kernel, rfl⟩
theorem mv_Md_itemOf : MV y_Md_itemOf k_Md_itemOf 3 (Option.some FieldType.int) 2 10 := ⟨co_Md_itemOf, im_Md_itemOf, se_Md_itemOf, ini_Md, by decide +kernel, rfl⟩
theorem mv_Md_taken : MV y_Md_taken k_Md_taken 4 (Option.some FieldType.int) 2 10 := ⟨co_Md_taken, im_Md_taken, se_Md_taken, ini_Md, by decide +kernel, rfl⟩
theorem mv_Md_shareOf : MV y_Md_shareOf k_Md_shareOf 5 (Option.some FieldType.int) 4 10 := ⟨co_Md_shareOf, im_Md_shareOf, se_Md_shareOf, ini_Md, by decide +kernel, rfl⟩
theorem mv_Md_sumBut : MV y_Md_sumBut k_Md_sumBut 7 (Option.some FieldType.int) 4 10 := ⟨co_Md_sumBut, im_Md_sumBut, se_Md_sumBut, ini_Md, by decide +kernel, rfl⟩
theorem mv_Md_share : MV y_Md_share k_Md_share 5 (Option.some FieldType.int) 4 10 := ⟨co_Md_share, im_Md_share, se_Md_share, ini_Md, by decide +kernel, rfl⟩
theorem mv_Md_worth : MV y_Md_worth k_Md_worth 3 (Option.some FieldType.int) 2 10 := ⟨co_Md_worth, im_Md_worth, se_Md_worth, ini_Md, by decide +kernel, rfl⟩
theorem mv_Md_likeness : MV y_Md_likeness k_Md_likeness 7 (Option.some FieldType.int) 3 10 := ⟨co_Md_likeness, im_Md_likeness, se_Md_likeness, ini_Md, by decide +kernel, rfl⟩
theorem mv_Md_alike : MV y_Md_alike k_Md_alike 3 (Option.some FieldType.int) 2 10 := ⟨co_Md_alike, im_Md_alike, se_Md_alike, ini_Md, by decide +kernel, rfl⟩
theorem mv_Md_adds : MV y_Md_adds k_Md_adds 5 (Option.none : Option FieldType) 2 10 := ⟨co_Md_adds, im_Md_adds, se_Md_adds, ini_Md, by decide +kernel, rfl⟩
theorem mv_Md_comes : MV y_Md_comes k_Md_comes 21 (Option.none : Option FieldType) 4 10 := ⟨co_Md_comes, im_Md_comes, se_Md_comes, ini_Md, by decide +kernel, rfl⟩
theorem mv_Md_spreads : MV y_Md_spreads k_Md_spreads 6 (Option.none : Option FieldType) 4 10 := ⟨co_Md_spreads, im_Md_spreads, se_Md_spreads, ini_Md, by decide +kernel, rfl⟩
theorem mv_Md_asMuch : MV y_Md_asMuch k_Md_asMuch 8 (Option.some FieldType.long) 4 10 := ⟨co_Md_asMuch, im_Md_asMuch, se_Md_asMuch, ini_Md, by decide +kernel, rfl⟩
theorem mv_Md_lowest : MS y_Md_lowest k_Md_lowest 11 (Option.some FieldType.long) 3 := ⟨co_Md_lowest, st_Md_lowest, ini_Md, by decide +kernel⟩
theorem mv_Md_odds : MV y_Md_odds k_Md_odds 7 (Option.some FieldType.long) 4 10 := ⟨co_Md_odds, im_Md_odds, se_Md_odds, ini_Md, by decide +kernel, rfl⟩
theorem mv_Md_just : MV y_Md_just k_Md_just 6 (Option.some FieldType.long) 5 10 := ⟨co_Md_just, im_Md_just, se_Md_just, ini_Md, by decide +kernel, rfl⟩
theorem mv_Md_compares : MS y_Md_compares k_Md_compares 25 (Option.some FieldType.int) 4 := ⟨co_Md_compares, st_Md_compares, ini_Md, by decide +kernel⟩
theorem mv_Md_source : MV y_Md_source k_Md_source 10 (Option.some FieldType.int) 2 10 := ⟨co_Md_source, im_Md_source, se_Md_source, ini_Md, by decide +kernel, rfl⟩
theorem mv_Md_without : MV y_Md_without k_Md_without 7 (Option.some FieldType.long) 4 10 := ⟨co_Md_without, im_Md_without, se_Md_without, ini_Md, by decide +kernel, rfl⟩
theorem mv_Md_key : MV y_Md_key k_Md_key 11 (Option.some FieldType.int) 2 10 := ⟨co_Md_key, im_Md_key, se_Md_key, ini_Md, by decide +kernel, rfl⟩
theorem mv_Md_isNear : MV y_Md_isNear k_Md_isNear 4 (Option.some FieldType.boolean) 3 10 := ⟨co_Md_isNear, im_Md_isNear, se_Md_isNear, ini_Md, by decide +kernel, rfl⟩
theorem mv_Md_puts : MV y_Md_puts k_Md_puts 8 (Option.none : Option FieldType) 4 10 := ⟨co_Md_puts, im_Md_puts, se_Md_puts, ini_Md, by decide +kernel, rfl⟩
theorem mv_Md_putsPair : MV y_Md_putsPair k_Md_putsPair 9 (Option.none : Option FieldType) 2 10 := ⟨co_Md_putsPair, im_Md_putsPair, se_Md_putsPair, ini_Md, by decide +kernel, rfl⟩
theorem mv_Md_isLow : MV y_Md_isLow k_Md_isLow 4 (Option.some FieldType.boolean) 3 10 := ⟨co_Md_isLow, im_Md_isLow, se_Md_isLow, ini_Md, by decide +kernel, rfl⟩
theorem mv_Md_orders : MV y_Md_orders k_Md_orders 3 (Option.none : Option FieldType) 0 10 := ⟨co_Md_orders, im_Md_orders, se_Md_orders, ini_Md, by decide +kernel, rfl⟩
theorem mv_Md_suspects : MV y_Md_suspects k_Md_suspects 3 (Option.some FieldType.int) 0 10 := ⟨co_Md_suspects, im_Md_suspects, se_Md_suspects, ini_Md, by decide +kernel, rfl⟩
theorem mv_Md_near : MV y_Md_near k_Md_near 5 (Option.some FieldType.int) 1 10 := ⟨co_Md_near, im_Md_near, se_Md_near, ini_Md, by decide +kernel, rfl⟩
theorem mv_Md_binds : MV y_Md_binds k_Md_binds 2 (Option.none : Option FieldType) 0 10 := ⟨co_Md_binds, im_Md_binds, se_Md_binds, ini_Md, by decide +kernel, rfl⟩
theorem mv_Md_common : MV y_Md_common k_Md_common 4 (Option.some FieldType.int) 1 10 := ⟨co_Md_common, im_Md_common, se_Md_common, ini_Md, by decide +kernel, rfl⟩
theorem mv_Md_isGroup : MV y_Md_isGroup k_Md_isGroup 3 (Option.some FieldType.boolean) 1 10 := ⟨co_Md_isGroup, im_Md_isGroup, se_Md_isGroup, ini_Md, by decide +kernel, rfl⟩
theorem mv_Md_grouped : MV y_Md_grouped k_Md_grouped 4 (Option.some FieldType.int) 1 10 := ⟨co_Md_grouped, im_Md_grouped, se_Md_grouped, ini_Md, by decide +kernel, rfl⟩
theorem mv_Md_greatest : MV y_Md_greatest k_Md_greatest 3 (Option.some FieldType.int) 0 10 := ⟨co_Md_greatest, im_Md_greatest, se_Md_greatest, ini_Md, by decide +kernel, rfl⟩
theorem mv_Md_pairs : MV y_Md_pairs k_Md_pairs 3 (Option.some FieldType.int) 2 10 := ⟨co_Md_pairs, im_Md_pairs, se_Md_pairs, ini_Md, by decide +kernel, rfl⟩
theorem mv_Md_pair : MV y_Md_pair k_Md_pair 3 (Option.some FieldType.int) 2 10 := ⟨co_Md_pair, im_Md_pair, se_Md_pair, ini_Md, by decide +kernel, rfl⟩
theorem mv_Md_pairOdds : MV y_Md_pairOdds k_Md_pairOdds 3 (Option.some FieldType.long) 2 10 := ⟨co_Md_pairOdds, im_Md_pairOdds, se_Md_pairOdds, ini_Md, by decide +kernel, rfl⟩
theorem mv_Md_ranked : MV y_Md_ranked k_Md_ranked 4 (Option.some FieldType.int) 2 10 := ⟨co_Md_ranked, im_Md_ranked, se_Md_ranked, ini_Md, by decide +kernel, rfl⟩
theorem mv_Md_rank : MV y_Md_rank k_Md_rank 3 (Option.some FieldType.int) 2 10 := ⟨co_Md_rank, im_Md_rank, se_Md_rank, ini_Md, by decide +kernel, rfl⟩
theorem mv_Md_linked : MV y_Md_linked k_Md_linked 2 (Option.some FieldType.int) 1 10 := ⟨co_Md_linked, im_Md_linked, se_Md_linked, ini_Md, by decide +kernel, rfl⟩
theorem mv_Md_chain : MV y_Md_chain k_Md_chain 5 (Option.some FieldType.int) 1 10 := ⟨co_Md_chain, im_Md_chain, se_Md_chain, ini_Md, by decide +kernel, rfl⟩
theorem mv_Md_group : MV y_Md_group k_Md_group 2 (Option.some FieldType.int) 1 10 := ⟨co_Md_group, im_Md_group, se_Md_group, ini_Md, by decide +kernel, rfl⟩
theorem mv_Md_nearNow : MV y_Md_nearNow k_Md_nearNow 6 (Option.some FieldType.int) 1 10 := ⟨co_Md_nearNow, im_Md_nearNow, se_Md_nearNow, ini_Md, by decide +kernel, rfl⟩
theorem mv_Md_placeOf : MV y_Md_placeOf k_Md_placeOf 3 (Option.some FieldType.int) 1 10 := ⟨co_Md_placeOf, im_Md_placeOf, se_Md_placeOf, ini_Md, by decide +kernel, rfl⟩
theorem mv_Md_turns : MV y_Md_turns k_Md_turns 5 (Option.some FieldType.boolean) 0 10 := ⟨co_Md_turns, im_Md_turns, se_Md_turns, ini_Md, by decide +kernel, rfl⟩
theorem mv_Md_exchange : MV y_Md_exchange k_Md_exchange 4 (Option.none : Option FieldType) 2 10 := ⟨co_Md_exchange, im_Md_exchange, se_Md_exchange, ini_Md, by decide +kernel, rfl⟩
theorem mv_Md_seated : MV y_Md_seated k_Md_seated 8 (Option.some FieldType.long) 2 10 := ⟨co_Md_seated, im_Md_seated, se_Md_seated, ini_Md, by decide +kernel, rfl⟩
theorem mv_Md_draw : MV y_Md_draw k_Md_draw 2 (Option.some FieldType.int) 1 10 := ⟨co_Md_draw, im_Md_draw, se_Md_draw, ini_Md, by decide +kernel, rfl⟩
theorem mv_Md_answersAnew : MV y_Md_answersAnew k_Md_answersAnew 6 (Option.some FieldType.int) 3 10 := ⟨co_Md_answersAnew, im_Md_answersAnew, se_Md_answersAnew, ini_Md, by decide +kernel, rfl⟩
theorem mv_Md_drawnBy : MV y_Md_drawnBy k_Md_drawnBy 8 (Option.some FieldType.int) 3 10 := ⟨co_Md_drawnBy, im_Md_drawnBy, se_Md_drawnBy, ini_Md, by decide +kernel, rfl⟩
theorem mv_Md_drawn : MV y_Md_drawn k_Md_drawn 4 (Option.some FieldType.int) 3 10 := ⟨co_Md_drawn, im_Md_drawn, se_Md_drawn, ini_Md, by decide +kernel, rfl⟩
theorem mv_Md_chance : MV y_Md_chance k_Md_chance 8 (Option.some FieldType.long) 5 10 := ⟨co_Md_chance, im_Md_chance, se_Md_chance, ini_Md, by decide +kernel, rfl⟩
theorem mv_Md_see : MV y_Md_see k_Md_see 4 (Option.some FieldType.int) 3 10 := ⟨co_Md_see, im_Md_see, se_Md_see, ini_Md, by decide +kernel, rfl⟩
theorem mv_Md_isAllSeen : MV y_Md_isAllSeen k_Md_isAllSeen 3 (Option.some FieldType.boolean) 0 10 := ⟨co_Md_isAllSeen, im_Md_isAllSeen, se_Md_isAllSeen, ini_Md, by decide +kernel, rfl⟩
theorem mv_Md_fits : MV y_Md_fits k_Md_fits 6 (Option.some FieldType.int) 1 10 := ⟨co_Md_fits, im_Md_fits, se_Md_fits, ini_Md, by decide +kernel, rfl⟩
theorem mv_Md_mean : MV y_Md_mean k_Md_mean 5 (Option.some FieldType.long) 1 10 := ⟨co_Md_mean, im_Md_mean, se_Md_mean, ini_Md, by decide +kernel, rfl⟩
theorem mv_Md_plan : MV y_Md_plan k_Md_plan 4 (Option.some FieldType.int) 3 10 := ⟨co_Md_plan, im_Md_plan, se_Md_plan, ini_Md, by decide +kernel, rfl⟩
theorem mv_Md_copies : MS y_Md_copies k_Md_copies 3 (Option.none : Option FieldType) 2 := ⟨co_Md_copies, st_Md_copies, ini_Md, by decide +kernel⟩
theorem mv_Md_goes : MV y_Md_goes k_Md_goes 5 (Option.none : Option FieldType) 3 10 := ⟨co_Md_goes, im_Md_goes, se_Md_goes, ini_Md, by decide +kernel, rfl⟩
theorem mv_Md_ends : MV y_Md_ends k_Md_ends 2 (Option.some FieldType.int) 0 10 := ⟨co_Md_ends, im_Md_ends, se_Md_ends, ini_Md, by decide +kernel, rfl⟩
theorem mv_Md_isTape : MS y_Md_isTape k_Md_isTape 1 (Option.some FieldType.boolean) 1 := ⟨co_Md_isTape, st_Md_isTape, ini_Md, by decide +kernel⟩
theorem mv_Md_judge : MV y_Md_judge k_Md_judge 5 (Option.some FieldType.int) 3 10 := ⟨co_Md_judge, im_Md_judge, se_Md_judge, ini_Md, by decide +kernel, rfl⟩
theorem mv_Md_seatedOnes : MV y_Md_seatedOnes k_Md_seatedOnes 3 (Option.some FieldType.int) 0 10 := ⟨co_Md_seatedOnes, im_Md_seatedOnes, se_Md_seatedOnes, ini_Md, by decide +kernel, rfl⟩
theorem mv_Md_count : MV y_Md_count k_Md_count 2 (Option.some FieldType.int) 1 10 := ⟨co_Md_count, im_Md_count, se_Md_count, ini_Md, by decide +kernel, rfl⟩
theorem mv_Md_tape : MV y_Md_tape k_Md_tape 5 (Option.some FieldType.int) 3 10 := ⟨co_Md_tape, im_Md_tape, se_Md_tape, ini_Md, by decide +kernel, rfl⟩
theorem mv_Md_fit : MS y_Md_fit k_Md_fit 3 (Option.some FieldType.long) 2 := ⟨co_Md_fit, st_Md_fit, ini_Md, by decide +kernel⟩
theorem mv_Md_item : MV y_Md_item k_Md_item 5 (Option.some FieldType.int) 3 10 := ⟨co_Md_item, im_Md_item, se_Md_item, ini_Md, by decide +kernel, rfl⟩
theorem mv_Md_peek : MV y_Md_peek k_Md_peek 3 (Option.some FieldType.long) 2 10 := ⟨co_Md_peek, im_Md_peek, se_Md_peek, ini_Md, by decide +kernel, rfl⟩
theorem mv_Md_shift : MV y_Md_shift k_Md_shift 7 (Option.some FieldType.int) 5 10 := ⟨co_Md_shift, im_Md_shift, se_Md_shift, ini_Md, by decide +kernel, rfl⟩
theorem mv_Draws_likeness : MV y_Draws_likeness k_Draws_likeness 10 (Option.some FieldType.int) 5 0 := ⟨co_Draws_likeness, im_Draws_likeness, se_Draws_likeness, ini_Draws, by decide +kernel, rfl⟩
theorem mv_Draws_anAnswer : MV y_Draws_anAnswer k_Draws_anAnswer 5 (Option.some FieldType.int) 1 0 := ⟨co_Draws_anAnswer, im_Draws_anAnswer, se_Draws_anAnswer, ini_Draws, by decide +kernel, rfl⟩
theorem mv_Draws_below : MV y_Draws_below k_Draws_below 2 (Option.some FieldType.int) 1 0 := ⟨co_Draws_below, im_Draws_below, se_Draws_below, ini_Draws, by decide +kernel, rfl⟩
theorem mv_Exam_begin : MV y_Exam_begin k_Exam_begin 4 (Option.none : Option FieldType) 1 1 := ⟨co_Exam_begin, im_Exam_begin, se_Exam_begin, ini_Exam, by decide +kernel, rfl⟩
theorem mv_Exam_copy : MV y_Exam_copy k_Exam_copy 3 (Option.none : Option FieldType) 1 1 := ⟨co_Exam_copy, im_Exam_copy, se_Exam_copy, ini_Exam, by decide +kernel, rfl⟩
theorem mv_Exam_hasItem : MV y_Exam_hasItem k_Exam_hasItem 2 (Option.some FieldType.boolean) 1 1 := ⟨co_Exam_hasItem, im_Exam_hasItem, se_Exam_hasItem, ini_Exam, by decide +kernel, rfl⟩
theorem mv_Exam_hasCandidate : MV y_Exam_hasCandidate k_Exam_hasCandidate 2 (Option.some FieldType.boolean) 1 1 := ⟨co_Exam_hasCandidate, im_Exam_hasCandidate, se_Exam_hasCandidate, ini_Exam, by decide +kernel, rfl⟩
theorem mv_Exam_hasTwo : MV y_Exam_hasTwo k_Exam_hasTwo 3 (Option.some FieldType.boolean) 2 1 := ⟨co_Exam_hasTwo, im_Exam_hasTwo, se_Exam_hasTwo, ini_Exam, by decide +kernel, rfl⟩
theorem mv_Exam_comes : MV y_Exam_comes k_Exam_comes 1 (Option.some FieldType.int) 0 1 := ⟨co_Exam_comes, im_Exam_comes, se_Exam_comes, ini_Exam, by decide +kernel, rfl⟩
theorem mv_Exam_leaveBlank : MV y_Exam_leaveBlank k_Exam_leaveBlank 3 (Option.none : Option FieldType) 1 1 := ⟨co_Exam_leaveBlank, im_Exam_leaveBlank, se_Exam_leaveBlank, ini_Exam, by decide +kernel, rfl⟩
theorem mv_Exam_sits : MV y_Exam_sits k_Exam_sits 4 (Option.none : Option FieldType) 3 1 := ⟨co_Exam_sits, im_Exam_sits, se_Exam_sits, ini_Exam, by decide +kernel, rfl⟩
theorem mv_Exam_hasSeat : MV y_Exam_hasSeat k_Exam_hasSeat 2 (Option.some FieldType.boolean) 1 1 := ⟨co_Exam_hasSeat, im_Exam_hasSeat, se_Exam_hasSeat, ini_Exam, by decide +kernel, rfl⟩
theorem mv_Exam_whoSits : MV y_Exam_whoSits k_Exam_whoSits 4 (Option.some FieldType.int) 2 1 := ⟨co_Exam_whoSits, im_Exam_whoSits, se_Exam_whoSits, ini_Exam, by decide +kernel, rfl⟩
theorem mv_Exam_seatedOnes : MV y_Exam_seatedOnes k_Exam_seatedOnes 3 (Option.some FieldType.int) 0 1 := ⟨co_Exam_seatedOnes, im_Exam_seatedOnes, se_Exam_seatedOnes, ini_Exam, by decide +kernel, rfl⟩
theorem mv_Exam_answersOf : MV y_Exam_answersOf k_Exam_answersOf 4 (Option.some FieldType.int) 1 1 := ⟨co_Exam_answersOf, im_Exam_answersOf, se_Exam_answersOf, ini_Exam, by decide +kernel, rfl⟩
theorem mv_Exam_rightOnesOf : MV y_Exam_rightOnesOf k_Exam_rightOnesOf 4 (Option.some FieldType.int) 1 1 := ⟨co_Exam_rightOnesOf, im_Exam_rightOnesOf, se_Exam_rightOnesOf, ini_Exam, by decide +kernel, rfl⟩
theorem mv_Exam_howMany : MV y_Exam_howMany k_Exam_howMany 5 (Option.some FieldType.int) 2 1 := ⟨co_Exam_howMany, im_Exam_howMany, se_Exam_howMany, ini_Exam, by decide +kernel, rfl⟩
theorem mv_Exam_answersTo : MV y_Exam_answersTo k_Exam_answersTo 2 (Option.some FieldType.int) 1 1 := ⟨co_Exam_answersTo, im_Exam_answersTo, se_Exam_answersTo, ini_Exam, by decide +kernel, rfl⟩
theorem mv_Exam_favouriteMistake : MV y_Exam_favouriteMistake k_Exam_favouriteMistake 6 (Option.some FieldType.int) 1 1 := ⟨co_Exam_favouriteMistake, im_Exam_favouriteMistake, se_Exam_favouriteMistake, ini_Exam, by decide +kernel, rfl⟩
theorem mv_Exam_bothGave : MV y_Exam_bothGave k_Exam_bothGave 4 (Option.some FieldType.boolean) 3 1 := ⟨co_Exam_bothGave, im_Exam_bothGave, se_Exam_bothGave, ini_Exam, by decide +kernel, rfl⟩
theorem mv_Exam_worth : MV y_Exam_worth k_Exam_worth 3 (Option.some FieldType.int) 2 1 := ⟨co_Exam_worth, im_Exam_worth, se_Exam_worth, ini_Exam, by decide +kernel, rfl⟩
theorem mv_Exam_likenessAt : MV y_Exam_likenessAt k_Exam_likenessAt 5 (Option.some FieldType.int) 3 1 := ⟨co_Exam_likenessAt, im_Exam_likenessAt, se_Exam_likenessAt, ini_Exam, by decide +kernel, rfl⟩
theorem mv_Exam_likeness : MV y_Exam_likeness k_Exam_likeness 5 (Option.some FieldType.int) 2 1 := ⟨co_Exam_likeness, im_Exam_likeness, se_Exam_likeness, ini_Exam, by decide +kernel, rfl⟩
theorem mv_Exam_near : MV y_Exam_near k_Exam_near 4 (Option.some FieldType.boolean) 3 1 := ⟨co_Exam_near, im_Exam_near, se_Exam_near, ini_Exam, by decide +kernel, rfl⟩
theorem mv_Exam_nearOnes : MV y_Exam_nearOnes k_Exam_nearOnes 5 (Option.some FieldType.int) 1 1 := ⟨co_Exam_nearOnes, im_Exam_nearOnes, se_Exam_nearOnes, ini_Exam, by decide +kernel, rfl⟩
theorem mv_Exam_inReach : MV y_Exam_inReach k_Exam_inReach 3 (Option.some FieldType.boolean) 2 1 := ⟨co_Exam_inReach, im_Exam_inReach, se_Exam_inReach, ini_Exam, by decide +kernel, rfl⟩
theorem mv_Exam_pairsInReach : MV y_Exam_pairsInReach k_Exam_pairsInReach 1 (Option.some FieldType.int) 0 1 := ⟨co_Exam_pairsInReach, im_Exam_pairsInReach, se_Exam_pairsInReach, ini_Exam, by decide +kernel, rfl⟩
theorem mv_Exam_likenessInReach : MV y_Exam_likenessInReach k_Exam_likenessInReach 4 (Option.some FieldType.int) 0 1 := ⟨co_Exam_likenessInReach, im_Exam_likenessInReach, se_Exam_likenessInReach, ini_Exam, by decide +kernel, rfl⟩
theorem mv_Exam_sees : MV y_Exam_sees k_Exam_sees 4 (Option.some FieldType.int) 3 1 := ⟨co_Exam_sees, im_Exam_sees, se_Exam_sees, ini_Exam, by decide +kernel, rfl⟩
theorem mv_Exam_canPlan : MV y_Exam_canPlan k_Exam_canPlan 4 (Option.some FieldType.boolean) 3 1 := ⟨co_Exam_canPlan, im_Exam_canPlan, se_Exam_canPlan, ini_Exam, by decide +kernel, rfl⟩
theorem mv_Exam_plans : MV y_Exam_plans k_Exam_plans 4 (Option.some FieldType.int) 3 1 := ⟨co_Exam_plans, im_Exam_plans, se_Exam_plans, ini_Exam, by decide +kernel, rfl⟩
theorem mv_Exam_followPlan : MV y_Exam_followPlan k_Exam_followPlan 2 (Option.none : Option FieldType) 0 1 := ⟨co_Exam_followPlan, im_Exam_followPlan, se_Exam_followPlan, ini_Exam, by decide +kernel, rfl⟩
theorem mv_Exam_follow : MV y_Exam_follow k_Exam_follow 4 (Option.none : Option FieldType) 3 1 := ⟨co_Exam_follow, im_Exam_follow, se_Exam_follow, ini_Exam, by decide +kernel, rfl⟩
theorem mv_Links_take : MV y_Links_take k_Links_take 5 (Option.none : Option FieldType) 1 2 := ⟨co_Links_take, im_Links_take, se_Links_take, ini_Links, by decide +kernel, rfl⟩
theorem mv_Links_areSuspect : MV y_Links_areSuspect k_Links_areSuspect 3 (Option.some FieldType.boolean) 2 2 := ⟨co_Links_areSuspect, im_Links_areSuspect, se_Links_areSuspect, ini_Links, by decide +kernel, rfl⟩
theorem mv_Links_reachedFrom : MV y_Links_reachedFrom k_Links_reachedFrom 5 (Option.some FieldType.int) 1 2 := ⟨co_Links_reachedFrom, im_Links_reachedFrom, se_Links_reachedFrom, ini_Links, by decide +kernel, rfl⟩
theorem mv_Links_groups : MV y_Links_groups k_Links_groups 3 (Option.some FieldType.int) 0 2 := ⟨co_Links_groups, im_Links_groups, se_Links_groups, ini_Links, by decide +kernel, rfl⟩
theorem mv_Links_greatest : MV y_Links_greatest k_Links_greatest 3 (Option.some FieldType.int) 0 2 := ⟨co_Links_greatest, im_Links_greatest, se_Links_greatest, ini_Links, by decide +kernel, rfl⟩
theorem mv_Links_groupAt : MV y_Links_groupAt k_Links_groupAt 4 (Option.some FieldType.int) 1 2 := ⟨co_Links_groupAt, im_Links_groupAt, se_Links_groupAt, ini_Links, by decide +kernel, rfl⟩
theorem mv_Links_isGroup : MV y_Links_isGroup k_Links_isGroup 4 (Option.some FieldType.boolean) 1 2 := ⟨co_Links_isGroup, im_Links_isGroup, se_Links_isGroup, ini_Links, by decide +kernel, rfl⟩
theorem mv_Odds_spread : MV y_Odds_spread k_Odds_spread 10 (Option.none : Option FieldType) 5 3 := ⟨co_Odds_spread, im_Odds_spread, se_Odds_spread, ini_Odds, by decide +kernel, rfl⟩
theorem mv_Odds_asGreat : MV y_Odds_asGreat k_Odds_asGreat 5 (Option.none : Option FieldType) 1 3 := ⟨co_Odds_asGreat, im_Odds_asGreat, se_Odds_asGreat, ini_Odds, by decide +kernel, rfl⟩
theorem mv_Odds_exactly : MV y_Odds_exactly k_Odds_exactly 3 (Option.none : Option FieldType) 2 3 := ⟨co_Odds_exactly, im_Odds_exactly, se_Odds_exactly, ini_Odds, by decide +kernel, rfl⟩
theorem mv_Odds_takeShares : MV y_Odds_takeShares k_Odds_takeShares 7 (Option.none : Option FieldType) 4 3 := ⟨co_Odds_takeShares, im_Odds_takeShares, se_Odds_takeShares, ini_Odds, by decide +kernel, rfl⟩
theorem mv_Odds_learn : MV y_Odds_learn k_Odds_learn 7 (Option.none : Option FieldType) 4 3 := ⟨co_Odds_learn, im_Odds_learn, se_Odds_learn, ini_Odds, by decide +kernel, rfl⟩
theorem mv_Odds_addItem : MV y_Odds_addItem k_Odds_addItem 9 (Option.none : Option FieldType) 3 3 := ⟨co_Odds_addItem, im_Odds_addItem, se_Odds_addItem, ini_Odds, by decide +kernel, rfl⟩
theorem mv_Odds_weigh : MV y_Odds_weigh k_Odds_weigh 14 (Option.none : Option FieldType) 5 3 := ⟨co_Odds_weigh, im_Odds_weigh, se_Odds_weigh, ini_Odds, by decide +kernel, rfl⟩
theorem mv_Odds_put : MV y_Odds_put k_Odds_put 7 (Option.none : Option FieldType) 3 3 := ⟨co_Odds_put, im_Odds_put, se_Odds_put, ini_Odds, by decide +kernel, rfl⟩
theorem mv_Ranking_has : MV y_Ranking_has k_Ranking_has 2 (Option.some FieldType.boolean) 1 4 := ⟨co_Ranking_has, im_Ranking_has, se_Ranking_has, ini_Ranking, by decide +kernel, rfl⟩
theorem mv_Ranking_order : MV y_Ranking_order k_Ranking_order 6 (Option.none : Option FieldType) 3 4 := ⟨co_Ranking_order, im_Ranking_order, se_Ranking_order, ini_Ranking, by decide +kernel, rfl⟩
theorem mv_Ranking_placeOf : MV y_Ranking_placeOf k_Ranking_placeOf 6 (Option.some FieldType.int) 2 4 := ⟨co_Ranking_placeOf, im_Ranking_placeOf, se_Ranking_placeOf, ini_Ranking, by decide +kernel, rfl⟩
theorem mv_Ranking_agrees : MV y_Ranking_agrees k_Ranking_agrees 5 (Option.some FieldType.boolean) 1 4 := ⟨co_Ranking_agrees, im_Ranking_agrees, se_Ranking_agrees, ini_Ranking, by decide +kernel, rfl⟩
theorem mv_Ranking_weighPair : MV y_Ranking_weighPair k_Ranking_weighPair 6 (Option.none : Option FieldType) 5 4 := ⟨co_Ranking_weighPair, im_Ranking_weighPair, se_Ranking_weighPair, ini_Ranking, by decide +kernel, rfl⟩
theorem mv_Ranking_insert : MV y_Ranking_insert k_Ranking_insert 4 (Option.none : Option FieldType) 2 4 := ⟨co_Ranking_insert, im_Ranking_insert, se_Ranking_insert, ini_Ranking, by decide +kernel, rfl⟩
theorem mv_Ranking_countSuspects : MV y_Ranking_countSuspects k_Ranking_countSuspects 4 (Option.some FieldType.int) 2 4 := ⟨co_Ranking_countSuspects, im_Ranking_countSuspects, se_Ranking_countSuspects, ini_Ranking, by decide +kernel, rfl⟩
theorem mv_Ranking_holds : MV y_Ranking_holds k_Ranking_holds 6 (Option.some FieldType.boolean) 3 4 := ⟨co_Ranking_holds, im_Ranking_holds, se_Ranking_holds, ini_Ranking, by decide +kernel, rfl⟩
theorem mv_Ratio_put : MV y_Ratio_put k_Ratio_put 7 (Option.none : Option FieldType) 2 5 := ⟨co_Ratio_put, im_Ratio_put, se_Ratio_put, ini_Ratio, by decide +kernel, rfl⟩
theorem mv_Ratio_copy : MV y_Ratio_copy k_Ratio_copy 2 (Option.none : Option FieldType) 1 5 := ⟨co_Ratio_copy, im_Ratio_copy, se_Ratio_copy, ini_Ratio, by decide +kernel, rfl⟩
theorem mv_Ratio_half : MV y_Ratio_half k_Ratio_half 2 (Option.some FieldType.long) 1 5 := ⟨co_Ratio_half, im_Ratio_half, se_Ratio_half, ini_Ratio, by decide +kernel, rfl⟩
theorem mv_Ratio_against : MV y_Ratio_against k_Ratio_against 2 (Option.some FieldType.int) 1 5 := ⟨co_Ratio_against, im_Ratio_against, se_Ratio_against, ini_Ratio, by decide +kernel, rfl⟩
theorem mv_Ratio_commonDivisor : MS y_Ratio_commonDivisor k_Ratio_commonDivisor 7 (Option.some FieldType.long) 2 := ⟨co_Ratio_commonDivisor, st_Ratio_commonDivisor, ini_Ratio, by decide +kernel⟩
theorem mv_Ratio_compare : MS y_Ratio_compare k_Ratio_compare 18 (Option.some FieldType.int) 4 := ⟨co_Ratio_compare, st_Ratio_compare, ini_Ratio, by decide +kernel⟩
theorem mv_Seating_ways : MV y_Seating_ways k_Seating_ways 9 (Option.none : Option FieldType) 4 6 := ⟨co_Seating_ways, im_Seating_ways, se_Seating_ways, ini_Seating, by decide +kernel, rfl⟩
theorem mv_Seating_gather : MV y_Seating_gather k_Seating_gather 3 (Option.none : Option FieldType) 1 6 := ⟨co_Seating_gather, im_Seating_gather, se_Seating_gather, ini_Seating, by decide +kernel, rfl⟩
theorem mv_Seating_relate : MV y_Seating_relate k_Seating_relate 6 (Option.none : Option FieldType) 3 6 := ⟨co_Seating_relate, im_Seating_relate, se_Seating_relate, ini_Seating, by decide +kernel, rfl⟩
theorem mv_Seating_nearSuspects : MV y_Seating_nearSuspects k_Seating_nearSuspects 4 (Option.some FieldType.int) 0 6 := ⟨co_Seating_nearSuspects, im_Seating_nearSuspects, se_Seating_nearSuspects, ini_Seating, by decide +kernel, rfl⟩
theorem mv_Seating_nextWay : MV y_Seating_nextWay k_Seating_nextWay 5 (Option.some FieldType.boolean) 0 6 := ⟨co_Seating_nextWay, im_Seating_nextWay, se_Seating_nextWay, ini_Seating, by decide +kernel, rfl⟩
theorem mv_Seating_swap : MV y_Seating_swap k_Seating_swap 4 (Option.none : Option FieldType) 2 6 := ⟨co_Seating_swap, im_Seating_swap, se_Seating_swap, ini_Seating, by decide +kernel, rfl⟩
theorem mv_Tape_begin : MV y_Tape_begin k_Tape_begin 4 (Option.none : Option FieldType) 2 7 := ⟨co_Tape_begin, im_Tape_begin, se_Tape_begin, ini_Tape, by decide +kernel, rfl⟩
theorem mv_Tape_holdsNothing : MV y_Tape_holdsNothing k_Tape_holdsNothing 1 (Option.some FieldType.boolean) 0 7 := ⟨co_Tape_holdsNothing, im_Tape_holdsNothing, se_Tape_holdsNothing, ini_Tape, by decide +kernel, rfl⟩
theorem mv_Tape_hasPlace : MV y_Tape_hasPlace k_Tape_hasPlace 2 (Option.some FieldType.boolean) 1 7 := ⟨co_Tape_hasPlace, im_Tape_hasPlace, se_Tape_hasPlace, ini_Tape, by decide +kernel, rfl⟩
theorem mv_Tape_hasPlaceBehind : MV y_Tape_hasPlaceBehind k_Tape_hasPlaceBehind 3 (Option.some FieldType.boolean) 2 7 := ⟨co_Tape_hasPlaceBehind, im_Tape_hasPlaceBehind, se_Tape_hasPlaceBehind, ini_Tape, by decide +kernel, rfl⟩
theorem mv_Tape_hasStretch : MV y_Tape_hasStretch k_Tape_hasStretch 3 (Option.some FieldType.boolean) 2 7 := ⟨co_Tape_hasStretch, im_Tape_hasStretch, se_Tape_hasStretch, ini_Tape, by decide +kernel, rfl⟩
theorem mv_Tape_fitted : MV y_Tape_fitted k_Tape_fitted 3 (Option.some FieldType.long) 1 7 := ⟨co_Tape_fitted, im_Tape_fitted, se_Tape_fitted, ini_Tape, by decide +kernel, rfl⟩
theorem mv_Text_isFull : MV y_Text_isFull k_Text_isFull 1 (Option.some FieldType.boolean) 0 8 := ⟨co_Text_isFull, im_Text_isFull, se_Text_isFull, ini_Text, by decide +kernel, rfl⟩
theorem mv_Text_append : MV y_Text_append k_Text_append 2 (Option.some FieldType.int) 1 8 := ⟨co_Text_append, im_Text_append, se_Text_append, ini_Text, by decide +kernel, rfl⟩
theorem mv_Text_empty : MV y_Text_empty k_Text_empty 1 (Option.none : Option FieldType) 0 8 := ⟨co_Text_empty, im_Text_empty, se_Text_empty, ini_Text, by decide +kernel, rfl⟩
theorem mv_Text_examine : MV y_Text_examine k_Text_examine 6 (Option.some FieldType.int) 1 8 := ⟨co_Text_examine, im_Text_examine, se_Text_examine, ini_Text, by decide +kernel, rfl⟩
theorem mv_Text_tell : MV y_Text_tell k_Text_tell 6 (Option.none : Option FieldType) 1 8 := ⟨co_Text_tell, im_Text_tell, se_Text_tell, ini_Text, by decide +kernel, rfl⟩
theorem mv_Text_isLetter : MS y_Text_isLetter k_Text_isLetter 1 (Option.some FieldType.boolean) 1 := ⟨co_Text_isLetter, st_Text_isLetter, ini_Text, by decide +kernel⟩
theorem mv_Jint_bitCount : MS y_Jint_bitCount k_Jint_bitCount 1 (Option.some FieldType.int) 1 := ⟨co_Jint_bitCount, st_Jint_bitCount, ini_Jint, by decide +kernel⟩
