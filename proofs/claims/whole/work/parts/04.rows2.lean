/-! branches, cells, returns -/
section RowsB
variable {l : Launch} {τ : TP} {ad : Nat → Nat} {cc : ByteArray} {nL : Nat} {own : String} {R : Room} {ret : Option FieldType} {K : Option Value → HP → Prop} {Y : HP → Nat → List (Nat × Value) → List Value → Prop}
variable {X : Type} {T T1 T2 : Option X} {G : X → Prop} {h h' : HP} {pc pc' tgt : Nat} {lv lv' : List (Nat × Value)} {st st' rest : List Value} {x y z i o a : Int} {off : Int}
theorem s_dup2 {v w : Value} (hv : v.category = 1) (hw : w.category = 1) (d : decode cc pc = .ok (.dup2, 1)) (hp : pc + 1 = pc') : St cc nL pc lv (v :: w :: st) pc' lv (v :: w :: v :: w :: st) := by
  subst hp
  exact fun p l e R s m args below meth c H locs cells slots Q ls hx hb hl k => lv_dup2_11 hx hb d hv hw (k ls hl)
theorem s_dup2w {v : Value} (hv : v.category = 2) (d : decode cc pc = .ok (.dup2, 1)) (hp : pc + 1 = pc') : St cc nL pc lv (v :: st) pc' lv (v :: v :: st) := by
  subst hp
  exact fun p l e R s m args below meth c H locs cells slots Q ls hx hb hl k => lv_dup2_2 hx hb d hv (k ls hl)
theorem s_pop {v : Value} (hv : v.category = 1) (d : decode cc pc = .ok (.pop, 1)) (hp : pc + 1 = pc') : St cc nL pc lv (v :: st) pc' lv st := by
  subst hp
  exact fun p l e R s m args below meth c H locs cells slots Q ls hx hb hl k => lv_pop hx hb d hv (k ls hl)
theorem lg_lCmp (hx : inL x) (hy : inL y) : lg_cmp (Int64.ofInt x) (Int64.ofInt y) = Int32.ofInt (lCmp x y) := by
  unfold lg_cmp lCmp
  simp only [gt_iff_lt, lt64 hy hx, eq64 hx hy]
  by_cases h1 : y < x
  · rw [if_pos h1, if_neg (by omega), if_neg (by omega)]; rfl
  · rw [if_neg h1]
    by_cases h2 : x = y
    · rw [if_pos h2, if_neg (by omega), if_pos h2]; rfl
    · rw [if_neg h2, if_pos (by omega)]; rfl
theorem s_lcmp (hx : inL x) (hy : inL y) (d : decode cc pc = .ok (.lcmp, 1)) (hp : pc + 1 = pc') : St cc nL pc lv (vL y :: vL x :: st) pc' lv (vI (lCmp x y) :: st) := by
  subst hp
  exact fun p l e R s m args below meth c H locs cells slots Q ls hx' hb hl k => W.lcmp hx' hb d (by rw [lg_lCmp hx hy]; exact k ls hl)

theorem z_icmp_eq (I : Isy l τ ad cc nL own R ret K Y) (hx : inR x) (hy : inR y) (d : decode cc pc = .ok (.if_icmp .eq off, 3)) (ht : (pc : Int) + off = (tgt : Int)) (hp : pc + 3 = pc') (k1 : x = y → Z Y T1 G h tgt lv rest) (k2 : ¬ (x = y) → Z Y T2 G h pc' lv rest) : Z Y (if x = y then T1 else T2) G h pc lv (vI y :: vI x :: rest) := by
  subst hp
  obtain ⟨p, e, s, m, args, below, meth, c, cells, slots, Q, D, cA, A, H0, hx', hb, hml, hown, hts, hK, hw, hA, hc, hs, rfl, hret⟩ := I
  intro r hT hG H locs ls hP hD hS hl hh
  refine lv_icmp_eq hx' hb d ht (fun q => ?_) (fun q => ?_)
  · have q' : x = y := (eq32 hx hy).mp q
    rw [if_pos q'] at hT
    exact k1 q' r hT hG H locs ls hP hD hS hl hh
  · have q' : ¬ (x = y) := fun z => q ((eq32 hx hy).mpr z)
    rw [if_neg q'] at hT
    exact k2 q' r hT hG H locs ls hP hD hS hl hh
theorem z_if_eq (I : Isy l τ ad cc nL own R ret K Y) (hx : inR x) (d : decode cc pc = .ok (.ifCond .eq off, 3)) (ht : (pc : Int) + off = (tgt : Int)) (hp : pc + 3 = pc') (k1 : x = 0 → Z Y T1 G h tgt lv rest) (k2 : ¬ (x = 0) → Z Y T2 G h pc' lv rest) : Z Y (if x = 0 then T1 else T2) G h pc lv (vI x :: rest) := by
  subst hp
  obtain ⟨p, e, s, m, args, below, meth, c, cells, slots, Q, D, cA, A, H0, hx', hb, hml, hown, hts, hK, hw, hA, hc, hs, rfl, hret⟩ := I
  intro r hT hG H locs ls hP hD hS hl hh
  refine lv_if_eq hx' hb d ht (fun q => ?_) (fun q => ?_)
  · have q' : x = 0 := (eq32 hx (inR_c rfl)).mp q
    rw [if_pos q'] at hT
    exact k1 q' r hT hG H locs ls hP hD hS hl hh
  · have q' : ¬ (x = 0) := fun z => q ((eq32 hx (inR_c rfl)).mpr z)
    rw [if_neg q'] at hT
    exact k2 q' r hT hG H locs ls hP hD hS hl hh
theorem z_icmp_ne (I : Isy l τ ad cc nL own R ret K Y) (hx : inR x) (hy : inR y) (d : decode cc pc = .ok (.if_icmp .ne off, 3)) (ht : (pc : Int) + off = (tgt : Int)) (hp : pc + 3 = pc') (k1 : ¬ x = y → Z Y T1 G h tgt lv rest) (k2 : x = y → Z Y T2 G h pc' lv rest) : Z Y (if x = y then T2 else T1) G h pc lv (vI y :: vI x :: rest) := by
  subst hp
  obtain ⟨p, e, s, m, args, below, meth, c, cells, slots, Q, D, cA, A, H0, hx', hb, hml, hown, hts, hK, hw, hA, hc, hs, rfl, hret⟩ := I
  intro r hT hG H locs ls hP hD hS hl hh
  refine lv_icmp_ne hx' hb d ht (fun q => ?_) (fun q => ?_)
  · have q' : ¬ x = y := fun z => q ((eq32 hx hy).mpr z)
    rw [if_neg q'] at hT
    exact k1 q' r hT hG H locs ls hP hD hS hl hh
  · have q' : x = y := (eq32 hx hy).mp q
    rw [if_pos q'] at hT
    exact k2 q' r hT hG H locs ls hP hD hS hl hh
theorem z_if_ne (I : Isy l τ ad cc nL own R ret K Y) (hx : inR x) (d : decode cc pc = .ok (.ifCond .ne off, 3)) (ht : (pc : Int) + off = (tgt : Int)) (hp : pc + 3 = pc') (k1 : ¬ x = 0 → Z Y T1 G h tgt lv rest) (k2 : x = 0 → Z Y T2 G h pc' lv rest) : Z Y (if x = 0 then T2 else T1) G h pc lv (vI x :: rest) := by
  subst hp
  obtain ⟨p, e, s, m, args, below, meth, c, cells, slots, Q, D, cA, A, H0, hx', hb, hml, hown, hts, hK, hw, hA, hc, hs, rfl, hret⟩ := I
  intro r hT hG H locs ls hP hD hS hl hh
  refine lv_if_ne hx' hb d ht (fun q => ?_) (fun q => ?_)
  · have q' : ¬ x = 0 := fun z => q ((eq32 hx (y := 0) (inR_c rfl)).mpr z)
    rw [if_neg q'] at hT
    exact k1 q' r hT hG H locs ls hP hD hS hl hh
  · have q' : x = 0 := (eq32 hx (y := 0) (inR_c rfl)).mp q
    rw [if_pos q'] at hT
    exact k2 q' r hT hG H locs ls hP hD hS hl hh
theorem z_icmp_lt (I : Isy l τ ad cc nL own R ret K Y) (hx : inR x) (hy : inR y) (d : decode cc pc = .ok (.if_icmp .lt off, 3)) (ht : (pc : Int) + off = (tgt : Int)) (hp : pc + 3 = pc') (k1 : x < y → Z Y T1 G h tgt lv rest) (k2 : ¬ (x < y) → Z Y T2 G h pc' lv rest) : Z Y (if x < y then T1 else T2) G h pc lv (vI y :: vI x :: rest) := by
  subst hp
  obtain ⟨p, e, s, m, args, below, meth, c, cells, slots, Q, D, cA, A, H0, hx', hb, hml, hown, hts, hK, hw, hA, hc, hs, rfl, hret⟩ := I
  intro r hT hG H locs ls hP hD hS hl hh
  refine lv_icmp_lt hx' hb d ht (fun q => ?_) (fun q => ?_)
  · have q' : x < y := (lt32 hx hy).mp q
    rw [if_pos q'] at hT
    exact k1 q' r hT hG H locs ls hP hD hS hl hh
  · have q' : ¬ (x < y) := fun z => q ((lt32 hx hy).mpr z)
    rw [if_neg q'] at hT
    exact k2 q' r hT hG H locs ls hP hD hS hl hh
theorem z_if_lt (I : Isy l τ ad cc nL own R ret K Y) (hx : inR x) (d : decode cc pc = .ok (.ifCond .lt off, 3)) (ht : (pc : Int) + off = (tgt : Int)) (hp : pc + 3 = pc') (k1 : x < 0 → Z Y T1 G h tgt lv rest) (k2 : ¬ (x < 0) → Z Y T2 G h pc' lv rest) : Z Y (if x < 0 then T1 else T2) G h pc lv (vI x :: rest) := by
  subst hp
  obtain ⟨p, e, s, m, args, below, meth, c, cells, slots, Q, D, cA, A, H0, hx', hb, hml, hown, hts, hK, hw, hA, hc, hs, rfl, hret⟩ := I
  intro r hT hG H locs ls hP hD hS hl hh
  refine lv_if_lt hx' hb d ht (fun q => ?_) (fun q => ?_)
  · have q' : x < 0 := (lt32 hx (inR_c rfl)).mp q
    rw [if_pos q'] at hT
    exact k1 q' r hT hG H locs ls hP hD hS hl hh
  · have q' : ¬ (x < 0) := fun z => q ((lt32 hx (inR_c rfl)).mpr z)
    rw [if_neg q'] at hT
    exact k2 q' r hT hG H locs ls hP hD hS hl hh
theorem z_icmp_ge (I : Isy l τ ad cc nL own R ret K Y) (hx : inR x) (hy : inR y) (d : decode cc pc = .ok (.if_icmp .ge off, 3)) (ht : (pc : Int) + off = (tgt : Int)) (hp : pc + 3 = pc') (k1 : y ≤ x → Z Y T1 G h tgt lv rest) (k2 : ¬ (y ≤ x) → Z Y T2 G h pc' lv rest) : Z Y (if y ≤ x then T1 else T2) G h pc lv (vI y :: vI x :: rest) := by
  subst hp
  obtain ⟨p, e, s, m, args, below, meth, c, cells, slots, Q, D, cA, A, H0, hx', hb, hml, hown, hts, hK, hw, hA, hc, hs, rfl, hret⟩ := I
  intro r hT hG H locs ls hP hD hS hl hh
  refine lv_icmp_ge hx' hb d ht (fun q => ?_) (fun q => ?_)
  · have q' : y ≤ x := (le32 hy hx).mp q
    rw [if_pos q'] at hT
    exact k1 q' r hT hG H locs ls hP hD hS hl hh
  · have q' : ¬ (y ≤ x) := fun z => q ((le32 hy hx).mpr z)
    rw [if_neg q'] at hT
    exact k2 q' r hT hG H locs ls hP hD hS hl hh
theorem z_if_ge (I : Isy l τ ad cc nL own R ret K Y) (hx : inR x) (d : decode cc pc = .ok (.ifCond .ge off, 3)) (ht : (pc : Int) + off = (tgt : Int)) (hp : pc + 3 = pc') (k1 : 0 ≤ x → Z Y T1 G h tgt lv rest) (k2 : ¬ (0 ≤ x) → Z Y T2 G h pc' lv rest) : Z Y (if 0 ≤ x then T1 else T2) G h pc lv (vI x :: rest) := by
  subst hp
  obtain ⟨p, e, s, m, args, below, meth, c, cells, slots, Q, D, cA, A, H0, hx', hb, hml, hown, hts, hK, hw, hA, hc, hs, rfl, hret⟩ := I
  intro r hT hG H locs ls hP hD hS hl hh
  refine lv_if_ge hx' hb d ht (fun q => ?_) (fun q => ?_)
  · have q' : 0 ≤ x := (le32 (inR_c rfl) hx).mp q
    rw [if_pos q'] at hT
    exact k1 q' r hT hG H locs ls hP hD hS hl hh
  · have q' : ¬ (0 ≤ x) := fun z => q ((le32 (inR_c rfl) hx).mpr z)
    rw [if_neg q'] at hT
    exact k2 q' r hT hG H locs ls hP hD hS hl hh
theorem z_icmp_gt (I : Isy l τ ad cc nL own R ret K Y) (hx : inR x) (hy : inR y) (d : decode cc pc = .ok (.if_icmp .gt off, 3)) (ht : (pc : Int) + off = (tgt : Int)) (hp : pc + 3 = pc') (k1 : y < x → Z Y T1 G h tgt lv rest) (k2 : ¬ (y < x) → Z Y T2 G h pc' lv rest) : Z Y (if y < x then T1 else T2) G h pc lv (vI y :: vI x :: rest) := by
  subst hp
  obtain ⟨p, e, s, m, args, below, meth, c, cells, slots, Q, D, cA, A, H0, hx', hb, hml, hown, hts, hK, hw, hA, hc, hs, rfl, hret⟩ := I
  intro r hT hG H locs ls hP hD hS hl hh
  refine lv_icmp_gt hx' hb d ht (fun q => ?_) (fun q => ?_)
  · have q' : y < x := (lt32 hy hx).mp q
    rw [if_pos q'] at hT
    exact k1 q' r hT hG H locs ls hP hD hS hl hh
  · have q' : ¬ (y < x) := fun z => q ((lt32 hy hx).mpr z)
    rw [if_neg q'] at hT
    exact k2 q' r hT hG H locs ls hP hD hS hl hh
theorem z_if_gt (I : Isy l τ ad cc nL own R ret K Y) (hx : inR x) (d : decode cc pc = .ok (.ifCond .gt off, 3)) (ht : (pc : Int) + off = (tgt : Int)) (hp : pc + 3 = pc') (k1 : 0 < x → Z Y T1 G h tgt lv rest) (k2 : ¬ (0 < x) → Z Y T2 G h pc' lv rest) : Z Y (if 0 < x then T1 else T2) G h pc lv (vI x :: rest) := by
  subst hp
  obtain ⟨p, e, s, m, args, below, meth, c, cells, slots, Q, D, cA, A, H0, hx', hb, hml, hown, hts, hK, hw, hA, hc, hs, rfl, hret⟩ := I
  intro r hT hG H locs ls hP hD hS hl hh
  refine lv_if_gt hx' hb d ht (fun q => ?_) (fun q => ?_)
  · have q' : 0 < x := (lt32 (inR_c rfl) hx).mp q
    rw [if_pos q'] at hT
    exact k1 q' r hT hG H locs ls hP hD hS hl hh
  · have q' : ¬ (0 < x) := fun z => q ((lt32 (inR_c rfl) hx).mpr z)
    rw [if_neg q'] at hT
    exact k2 q' r hT hG H locs ls hP hD hS hl hh
theorem z_icmp_le (I : Isy l τ ad cc nL own R ret K Y) (hx : inR x) (hy : inR y) (d : decode cc pc = .ok (.if_icmp .le off, 3)) (ht : (pc : Int) + off = (tgt : Int)) (hp : pc + 3 = pc') (k1 : x ≤ y → Z Y T1 G h tgt lv rest) (k2 : ¬ (x ≤ y) → Z Y T2 G h pc' lv rest) : Z Y (if x ≤ y then T1 else T2) G h pc lv (vI y :: vI x :: rest) := by
  subst hp
  obtain ⟨p, e, s, m, args, below, meth, c, cells, slots, Q, D, cA, A, H0, hx', hb, hml, hown, hts, hK, hw, hA, hc, hs, rfl, hret⟩ := I
  intro r hT hG H locs ls hP hD hS hl hh
  refine lv_icmp_le hx' hb d ht (fun q => ?_) (fun q => ?_)
  · have q' : x ≤ y := (le32 hx hy).mp q
    rw [if_pos q'] at hT
    exact k1 q' r hT hG H locs ls hP hD hS hl hh
  · have q' : ¬ (x ≤ y) := fun z => q ((le32 hx hy).mpr z)
    rw [if_neg q'] at hT
    exact k2 q' r hT hG H locs ls hP hD hS hl hh
theorem z_if_le (I : Isy l τ ad cc nL own R ret K Y) (hx : inR x) (d : decode cc pc = .ok (.ifCond .le off, 3)) (ht : (pc : Int) + off = (tgt : Int)) (hp : pc + 3 = pc') (k1 : x ≤ 0 → Z Y T1 G h tgt lv rest) (k2 : ¬ (x ≤ 0) → Z Y T2 G h pc' lv rest) : Z Y (if x ≤ 0 then T1 else T2) G h pc lv (vI x :: rest) := by
  subst hp
  obtain ⟨p, e, s, m, args, below, meth, c, cells, slots, Q, D, cA, A, H0, hx', hb, hml, hown, hts, hK, hw, hA, hc, hs, rfl, hret⟩ := I
  intro r hT hG H locs ls hP hD hS hl hh
  refine lv_if_le hx' hb d ht (fun q => ?_) (fun q => ?_)
  · have q' : x ≤ 0 := (le32 hx (inR_c rfl)).mp q
    rw [if_pos q'] at hT
    exact k1 q' r hT hG H locs ls hP hD hS hl hh
  · have q' : ¬ (x ≤ 0) := fun z => q ((le32 hx (inR_c rfl)).mpr z)
    rw [if_neg q'] at hT
    exact k2 q' r hT hG H locs ls hP hD hS hl hh
theorem z_ldc (I : Isy l τ ad cc nL own R ret K Y) {index : Nat} {v : Int32} (hm : Cond.constant own index v ∈ gd) (hv : v = Int32.ofInt x) (d : decode cc pc = .ok (.ldc index, 2)) (hp : pc + 2 = pc') (k : Z Y T G h pc' lv (vI x :: rest)) : Z Y T G h pc lv rest := by
  subst hp
  subst hv
  obtain ⟨p, e, s, m, args, below, meth, c, cells, slots, Q, D, cA, A, H0, hx', hb, hml, hown, hts, hK, hw, hA, hc, hs, rfl, hret⟩ := I
  intro r hT hG H locs ls hP hD hS hl hh
  exact lv_ldc hx' hb hown (hts _ hm) d (k r hT hG H locs ls hP hD hS hl hh)
theorem z_ldcw (I : Isy l τ ad cc nL own R ret K Y) {index : Nat} {v : Int32} (hm : Cond.constant own index v ∈ gd) (hv : v = Int32.ofInt x) (d : decode cc pc = .ok (.ldc_w index, 3)) (hp : pc + 3 = pc') (k : Z Y T G h pc' lv (vI x :: rest)) : Z Y T G h pc lv rest := by
  subst hp
  subst hv
  obtain ⟨p, e, s, m, args, below, meth, c, cells, slots, Q, D, cA, A, H0, hx', hb, hml, hown, hts, hK, hw, hA, hc, hs, rfl, hret⟩ := I
  intro r hT hG H locs ls hP hD hS hl hh
  exact lv_ldcw hx' hb hown (hts _ hm) d (k r hT hG H locs ls hP hD hS hl hh)
theorem z_ldc2 (I : Isy l τ ad cc nL own R ret K Y) {index : Nat} {v : Int64} (hm : Cond.constantLong own index v ∈ gd) (hv : v = Int64.ofInt x) (d : decode cc pc = .ok (.ldc2_w index, 3)) (hp : pc + 3 = pc') (k : Z Y T G h pc' lv (vL x :: rest)) : Z Y T G h pc lv rest := by
  subst hp
  subst hv
  obtain ⟨p, e, s, m, args, below, meth, c, cells, slots, Q, D, cA, A, H0, hx', hb, hml, hown, hts, hK, hw, hA, hc, hs, rfl, hret⟩ := I
  intro r hT hG H locs ls hP hD hS hl hh
  exact lv_ldc2 hx' hb hown (hts _ hm) d (k r hT hG H locs ls hP hD hS hl hh)
theorem z_tin (I : Isy l τ ad cc nL own R ret K Y) {dflt lo hi : Int} {offs : Array Int} {len : Nat} (hx : inR x) (d : decode cc pc = .ok (.tableswitch dflt lo hi offs, len)) (v : Int) (hv : lo ≤ v ∧ v ≤ hi) (ho : offs[(v - lo).toNat]? = some off) (ht : (pc : Int) + off = (tgt : Int)) (k1 : x = v → Z Y T1 G h tgt lv rest) (k2 : ¬ x = v → Z Y T2 G h pc lv (vI x :: rest)) : Z Y (if x = v then T1 else T2) G h pc lv (vI x :: rest) := by
  intro r hT hG
  by_cases q : x = v
  · rw [if_pos q] at hT
    have kk := k1 q r hT hG
    obtain ⟨p, e, s, m, args, below, meth, c, cells, slots, Q, D, cA, A, H0, hx', hb, hml, hown, hts, hK, hw, hA, hc, hs, rfl, hret⟩ := I
    intro H locs ls hP hD hS hl hh
    have e1 : (Int32.ofInt x).toInt = v := by rw [toI32 hx, q]
    exact lv_tableIn hx' hb d (by rw [e1]; omega) (by rw [e1]; omega) (by rw [e1]; exact ho) ht (kk H locs ls hP hD hS hl hh)
  · rw [if_neg q] at hT
    exact k2 q r hT hG
theorem z_tout (I : Isy l τ ad cc nL own R ret K Y) {dflt lo hi : Int} {offs : Array Int} {len : Nat} (hx : inR x) (d : decode cc pc = .ok (.tableswitch dflt lo hi offs, len)) (hq : x < lo ∨ hi < x) (ht : (pc : Int) + dflt = (tgt : Int)) (k : Z Y T G h tgt lv rest) : Z Y T G h pc lv (vI x :: rest) := by
  obtain ⟨p, e, s, m, args, below, meth, c, cells, slots, Q, D, cA, A, H0, hx', hb, hml, hown, hts, hK, hw, hA, hc, hs, rfl, hret⟩ := I
  intro r hT hG H locs ls hP hD hS hl hh
  exact lv_tableOut hx' hb d (by rw [toI32 hx]; exact hq) ht (k r hT hG H locs ls hP hD hS hl hh)
theorem z_look (I : Isy l τ ad cc nL own R ret K Y) {dflt : Int} {ps : Array (Int × Int)} {len : Nat} (hx : inR x) (d : decode cc pc = .ok (.lookupswitch dflt ps, len)) (hps : (ps.toList.zip (ps.toList.drop 1)).all (fun (a, next) => a.1 < next.1) = true) (ho : Op.lookupswitch.offset ps.toList dflt x = off) (ht : (pc : Int) + off = (tgt : Int)) (k : Z Y T G h tgt lv rest) : Z Y T G h pc lv (vI x :: rest) := by
  obtain ⟨p, e, s, m, args, below, meth, c, cells, slots, Q, D, cA, A, H0, hx', hb, hml, hown, hts, hK, hw, hA, hc, hs, rfl, hret⟩ := I
  intro r hT hG H locs ls hP hD hS hl hh
  exact lv_lookup hx' hb d hps (by rw [toI32 hx]; exact ho) ht (k r hT hG H locs ls hP hD hS hl hh)
/-- a number kept by a name: h, x below are as they were -/
theorem z_ret (I : Isy l τ ad cc nL own R ret K Y) {v : X} {w : Option Value} (hk : G v → K w h) (hv : rv ret w) (d : decode cc pc = .ok (retI ret, 1)) (hst : st = w.toList) : Z Y (some v) G h pc lv st := by
  obtain ⟨p, e, s, m, args, below, meth, c, cells, slots, Q, D, cA, A, H0, hx', hb, hml, hown, hts, hK, hw, hA, hc, hs, rfl, hret⟩ := I
  intro r hT hG
  cases hT
  subst hst
  exact hret h pc lv w (hk hG) hv d
/-- fields: the class by its number, the field by its place -/
def GF (own : String) (index ci k : Nat) : Prop := ∃ (C : String) (T : u_T) (N : Nat), CL[ci]? = some (C, T, N) ∧ (∀ w ∈ u_ws C T N, w ∈ gd) ∧ k < N ∧ Cond.fieldLink own index C (T k).2.1 (T k).2.2.1 ∈ gd ∧ (T k).1 = C
def PF (own : String) (index ci k : Nat) (ty : FieldType) : Prop := ∃ (C : String) (T : u_T) (N : Nat) (ty0 : Nat → FieldType), CL[ci]? = some (C, T, N) ∧ (∀ w ∈ u_ws C T N, w ∈ gd) ∧ k < N ∧ Cond.fieldLink own index C (T k).2.1 (T k).2.2.1 ∈ gd ∧ (T k).1 = C ∧
  (∀ k, k < N → parseFieldDescriptor (T k).2.2.1 = some (ty0 k)) ∧ (∀ a, a < N → ∀ b, b < N → a ≠ b → (T a).2.1 ≠ (T b).2.1) ∧ (T k).2.2.2 = false ∧ parseFieldDescriptor (T k).2.2.1 = some ty
theorem flds_get {ad : Nat → Nat} {h : HP} {k ci j : Nat} {t : Nat × Nat} (hf : (FT ci)[j]? = some t) : ((FT ci).mapIdx (fv ad h k))[j]? = some (fv ad h k j t) := by
  rw [List.getElem?_mapIdx, hf]
  rfl
theorem z_getV (I : Isy l τ ad cc nL own R ret K Y) {index ci j : Nat} {t : Nat × Nat} (g : GF own index ci j) (ho : ok τ (4, ci) o) (hf : (FT ci)[j]? = some t) (d : decode cc pc = .ok (.getfield index, 3)) (hp : pc + 3 = pc') (k : okv t.1 (h o j) → Z Y T G h pc' lv (fv ad h o.toNat j t :: rest)) : Z Y T G h pc lv (vR ad o :: rest) := by
  subst hp
  obtain ⟨p, e, s, m, args, below, meth, c, cells, slots, Q, D, cA, A, H0, hx', hb, hml, hown, hts, hK, hw, hA, hc, hs, rfl, hret⟩ := I
  intro r hT hG H locs ls hP hD hS hl hh
  obtain ⟨C, TT, N, h1, h2, h3, h4, h5⟩ := g
  have e0 : ((o.toNat : Nat) : Int) = o := Int.toNat_of_nonneg ho.1
  have hv : okv t.1 (h o j) := by
    have := hh _ _ ho.2 j t hf
    rwa [e0] at this
  refine va_get hx' hb hts h2 hown hK hP o.toNat (ws_get ho.2) h1 j h3 (hts _ h4) (fun x hx => by rw [h5] at hx; exact hx) (flds_get hf) d ?_
  exact k hv r hT hG H locs ls hP hD hS hl hh
theorem z_getI (I : Isy l τ ad cc nL own R ret K Y) {index ci j : Nat} {b : Nat} {jI : Int} (g : GF own index ci j) (ho : ok τ (4, ci) o) (hf : (FT ci)[j]? = some (0, b)) (hj : (j : Int) = jI) (d : decode cc pc = .ok (.getfield index, 3)) (hp : pc + 3 = pc') (k : inR (h o jI) → Z Y T G h pc' lv (vI (h o jI) :: rest)) : Z Y T G h pc lv (vR ad o :: rest) := by
  subst hj
  refine z_getV I g ho hf d hp (fun q => ?_)
  have e0 : ((o.toNat : Nat) : Int) = o := Int.toNat_of_nonneg ho.1
  show Z Y T G h pc' lv (vI (h ((o.toNat : Nat) : Int) j) :: rest)
  rw [e0]
  exact k q
theorem z_getB (I : Isy l τ ad cc nL own R ret K Y) {index ci j : Nat} {b : Nat} {jI : Int} (g : GF own index ci j) (ho : ok τ (4, ci) o) (hf : (FT ci)[j]? = some (2, b)) (hj : (j : Int) = jI) (d : decode cc pc = .ok (.getfield index, 3)) (hp : pc + 3 = pc') (k : b01 (h o jI) → Z Y T G h pc' lv (vI (h o jI) :: rest)) : Z Y T G h pc lv (vR ad o :: rest) := by
  subst hj
  refine z_getV I g ho hf d hp (fun q => ?_)
  have e0 : ((o.toNat : Nat) : Int) = o := Int.toNat_of_nonneg ho.1
  show Z Y T G h pc' lv (vI (h ((o.toNat : Nat) : Int) j) :: rest)
  rw [e0]
  exact k q
theorem z_getL (I : Isy l τ ad cc nL own R ret K Y) {index ci j : Nat} {b : Nat} {jI : Int} (g : GF own index ci j) (ho : ok τ (4, ci) o) (hf : (FT ci)[j]? = some (1, b)) (hj : (j : Int) = jI) (d : decode cc pc = .ok (.getfield index, 3)) (hp : pc + 3 = pc') (k : inL (h o jI) → Z Y T G h pc' lv (vL (h o jI) :: rest)) : Z Y T G h pc lv (vR ad o :: rest) := by
  subst hj
  refine z_getV I g ho hf d hp (fun q => ?_)
  have e0 : ((o.toNat : Nat) : Int) = o := Int.toNat_of_nonneg ho.1
  show Z Y T G h pc' lv (vL (h ((o.toNat : Nat) : Int) j) :: rest)
  rw [e0]
  exact k q
theorem z_getR (I : Isy l τ ad cc nL own R ret K Y) {index ci j : Nat} {b : Nat} {eI : Int} (g : GF own index ci j) (ho : ok τ (4, ci) o) (hf : (FT ci)[j]? = some (3, b)) (he : o + (b : Int) = eI) (d : decode cc pc = .ok (.getfield index, 3)) (hp : pc + 3 = pc') (k : Z Y T G h pc' lv (vR ad eI :: rest)) : Z Y T G h pc lv (vR ad o :: rest) := by
  subst he
  refine z_getV I g ho hf d hp (fun q => ?_)
  have h0 := ho.1
  have e0 : (o + (b : Int)).toNat = o.toNat + b := by omega
  show Z Y T G h pc' lv (.ref (ad (o.toNat + b)) :: rest)
  rw [← e0]
  exact k
theorem z_putV (I : Isy l τ ad cc nL own R ret K Y) {index ci j : Nat} {t : Nat × Nat} {ty : FieldType} {v : Value} (g : PF own index ci j ty) (ho : ok τ (4, ci) o) (hf : (FT ci)[j]? = some t) (hn : narrow ty v = v) (hfit : fits ty v = true) (hv : okv t.1 x) (he : fv ad (upd2 h o j x) o.toNat j t = v) (d : decode cc pc = .ok (.putfield index, 3)) (hp : pc + 3 = pc') (k : Z Y T G (upd2 h o j x) pc' lv rest) : Z Y T G h pc lv (v :: vR ad o :: rest) := by
  subst hp
  obtain ⟨p, e, s, m, args, below, meth, c, cells, slots, Q, D, cA, A, H0, hx', hb, hml, hown, hts, hK, hw, hA, hc, hs, rfl, hret⟩ := I
  intro r hT hG H locs ls hP hD hS hl hh
  obtain ⟨C, TT, N, ty0, h1, h2, h3, h4, h5, h6, h7, h8, h9⟩ := g
  have e0 : ((o.toNat : Nat) : Int) = o := Int.toNat_of_nonneg ho.1
  have hother : ∀ q : Nat, q ≠ o.toNat → ∀ i : Int, h q i = upd2 h o j x q i := fun q hq i => by
    have : ¬ ((q : Int) = o ∧ i = (j : Int)) := fun z => hq (by omega)
    show _ = if (q : Int) = o ∧ i = (j : Int) then x else h q i
    rw [if_neg this]
  have hset : (ws τ ad cA h).set o.toNat (ad o.toNat, .inr (ci, ((FT ci).mapIdx (fv ad h o.toNat)).set j v)) = ws τ ad cA (upd2 h o j x) := by
    refine ws_set ho.2 ?_ hother
    show (Sum.inr (ci, ((FT ci).mapIdx (fv ad h o.toNat)).set j v) : va_E) = Sum.inr (ci, (FT ci).mapIdx (fv ad (upd2 h o j x) o.toNat))
    refine congrArg (fun z => Sum.inr (ci, z)) ?_
    apply List.ext_getElem?
    intro i
    by_cases hi : i = j
    · subst hi
      have hl' : i < ((FT ci).mapIdx (fv ad h o.toNat)).length := by
        rw [List.length_mapIdx]
        exact (List.getElem?_eq_some_iff.mp hf).1
      rw [List.getElem?_set_self hl', flds_get hf, he]
    · rw [List.getElem?_set_ne (fun z => hi z.symm), List.getElem?_mapIdx, List.getElem?_mapIdx]
      cases (FT ci)[i]? with
      | none => rfl
      | some t' =>
        show some (fv ad h o.toNat i t') = some (fv ad (upd2 h o j x) o.toNat i t')
        have e1 : upd2 h o j x ((o.toNat : Nat) : Int) i = h ((o.toNat : Nat) : Int) i := by
          show (if ((o.toNat : Nat) : Int) = o ∧ (i : Int) = (j : Int) then x else _) = _
          rw [if_neg (fun z => hi (by omega))]
        unfold fv
        rw [e1]
  have hh' : hr τ (upd2 h o j x) := by
    refine hr_set hh ho.2 ?_ hother
    intro i t' ht'
    by_cases hi : i = j
    · subst hi
      cases hf.symm.trans ht'
      show okv t.1 (if ((o.toNat : Nat) : Int) = o ∧ (i : Int) = (i : Int) then x else _)
      rw [if_pos ⟨e0, rfl⟩]
      exact hv
    · show okv t'.1 (if ((o.toNat : Nat) : Int) = o ∧ (i : Int) = (j : Int) then x else _)
      rw [if_neg (fun z => hi (by omega))]
      exact hh _ _ ho.2 i t' ht'
  have hjl : j < ((FT ci).mapIdx (fv ad h o.toNat)).length := by
    rw [List.length_mapIdx]
    exact (List.getElem?_eq_some_iff.mp hf).1
  refine va_put hx' hb hts h2 ty0 h6 h7 hown hK hP hD hS o.toNat (ws_get ho.2) h1 j h3 (hts _ h4) (fun x hx => by rw [h5] at hx; exact hx) h8 h9 hn hfit hjl d (fun H1 locs1 hP1 hD1 hS1 => ?_)
  rw [hset] at hP1 hD1
  exact k r hT hG H1 locs1 ls hP1 hD1 hS1 hl hh'
theorem upd2_same (h : HP) {p q i j : Int} (x : Int) (h1 : p = q) (h2 : i = j) : upd2 h p i x q j = x := by
  unfold upd2
  rw [if_pos ⟨h1.symm, h2.symm⟩]
theorem z_putI (I : Isy l τ ad cc nL own R ret K Y) {index ci j : Nat} {b : Nat} {jI : Int} (g : PF own index ci j .int) (ho : ok τ (4, ci) o) (hf : (FT ci)[j]? = some (0, b)) (hj : (j : Int) = jI) (hx : inR x) (d : decode cc pc = .ok (.putfield index, 3)) (hp : pc + 3 = pc') (k : Z Y T G (upd2 h o jI x) pc' lv rest) : Z Y T G h pc lv (vI x :: vR ad o :: rest) := by
  subst hj
  refine z_putV I g ho hf rfl rfl hx ?_ d hp k
  show vI (upd2 h o j x ((o.toNat : Nat) : Int) j) = vI x
  rw [upd2_same h x (Int.toNat_of_nonneg ho.1).symm rfl]
theorem z_putL (I : Isy l τ ad cc nL own R ret K Y) {index ci j : Nat} {b : Nat} {jI : Int} (g : PF own index ci j .long) (ho : ok τ (4, ci) o) (hf : (FT ci)[j]? = some (1, b)) (hj : (j : Int) = jI) (hx : inL x) (d : decode cc pc = .ok (.putfield index, 3)) (hp : pc + 3 = pc') (k : Z Y T G (upd2 h o jI x) pc' lv rest) : Z Y T G h pc lv (vL x :: vR ad o :: rest) := by
  subst hj
  refine z_putV I g ho hf rfl rfl hx ?_ d hp k
  show vL (upd2 h o j x ((o.toNat : Nat) : Int) j) = vL x
  rw [upd2_same h x (Int.toNat_of_nonneg ho.1).symm rfl]
theorem z_putB (I : Isy l τ ad cc nL own R ret K Y) {index ci j : Nat} {b : Nat} {jI : Int} (g : PF own index ci j .boolean) (ho : ok τ (4, ci) o) (hf : (FT ci)[j]? = some (2, b)) (hj : (j : Int) = jI) (hx : b01 x) (d : decode cc pc = .ok (.putfield index, 3)) (hp : pc + 3 = pc') (k : Z Y T G (upd2 h o jI x) pc' lv rest) : Z Y T G h pc lv (vI x :: vR ad o :: rest) := by
  subst hj
  refine z_putV I g ho hf (by rcases hx with rfl | rfl <;> rfl) (by rcases hx with rfl | rfl <;> rfl) hx ?_ d hp k
  show vI (upd2 h o j x ((o.toNat : Nat) : Int) j) = vI x
  rw [upd2_same h x (Int.toNat_of_nonneg ho.1).symm rfl]
/-- arrays -/
theorem in_of {n : Nat} {nI : Int} (hn : (n : Int) = nI) (hi : inR i) (q : 0 ≤ i ∧ i < nI) : vp_in (Int32.ofInt i) n := vp_in_iff.mpr (by rw [toI32 hi]; omega)
theorem cl_of (hi : inR i) : (Int32.ofInt i).toNatClampNeg = i.toNat := by
  show (Int32.ofInt i).toInt.toNat = _
  rw [toI32 hi]
theorem z_iald (I : Isy l τ ad cc nL own R ret K Y) {n : Nat} {nI : Int} (ho : ok τ (0, n) a) (hi : inR i) (hn : (n : Int) = nI) (d : decode cc pc = .ok (.iaload, 1)) (hp : pc + 1 = pc') (k : (0 ≤ i ∧ i < nI) → inR (h a i) → Z Y T G h pc' lv (vI (h a i) :: rest)) : Z Y (if 0 ≤ i ∧ i < nI then T else none) G h pc lv (vI i :: vR ad a :: rest) := by
  subst hp
  obtain ⟨p, e, s, m, args, below, meth, c, cells, slots, Q, D, cA, A, H0, hx', hb, hml, hown, hts, hK, hw, hA, hc, hs, rfl, hret⟩ := I
  intro r hT hG H locs ls hP hD hS hl hh
  by_cases q : 0 ≤ i ∧ i < nI
  · rw [if_pos q] at hT
    have e0 : ((a.toNat : Nat) : Int) = a := Int.toNat_of_nonneg ho.1
    have e1 : ((i.toNat : Nat) : Int) = i := Int.toNat_of_nonneg q.1
    have hv : inR (h a i) := by
      have := hh _ _ ho.2 i.toNat (by omega)
      rwa [e0, e1] at this
    refine va_iald hx' hb hK hP a.toNat 0 (ws_get ho.2) rfl (in_of hn hi q) d ?_
    rw [cl_of hi, e0, e1]
    exact k q hv r hT hG H locs ls hP hD hS hl hh
  · rw [if_neg q] at hT
    cases hT
theorem z_lald (I : Isy l τ ad cc nL own R ret K Y) {n : Nat} {nI : Int} (ho : ok τ (1, n) a) (hi : inR i) (hn : (n : Int) = nI) (d : decode cc pc = .ok (.laload, 1)) (hp : pc + 1 = pc') (k : (0 ≤ i ∧ i < nI) → inL (h a i) → Z Y T G h pc' lv (vL (h a i) :: rest)) : Z Y (if 0 ≤ i ∧ i < nI then T else none) G h pc lv (vI i :: vR ad a :: rest) := by
  subst hp
  obtain ⟨p, e, s, m, args, below, meth, c, cells, slots, Q, D, cA, A, H0, hx', hb, hml, hown, hts, hK, hw, hA, hc, hs, rfl, hret⟩ := I
  intro r hT hG H locs ls hP hD hS hl hh
  by_cases q : 0 ≤ i ∧ i < nI
  · rw [if_pos q] at hT
    have e0 : ((a.toNat : Nat) : Int) = a := Int.toNat_of_nonneg ho.1
    have e1 : ((i.toNat : Nat) : Int) = i := Int.toNat_of_nonneg q.1
    have hv : inL (h a i) := by
      have := hh _ _ ho.2 i.toNat (by omega)
      rwa [e0, e1] at this
    refine va_lald hx' hb hK hP a.toNat 1 (ws_get ho.2) rfl (in_of hn hi q) d ?_
    rw [cl_of hi, e0, e1]
    exact k q hv r hT hG H locs ls hP hD hS hl hh
  · rw [if_neg q] at hT
    cases hT
theorem z_bald (I : Isy l τ ad cc nL own R ret K Y) {n : Nat} {nI : Int} (ho : ok τ (2, n) a) (hi : inR i) (hn : (n : Int) = nI) (d : decode cc pc = .ok (.baload, 1)) (hp : pc + 1 = pc') (k : (0 ≤ i ∧ i < nI) → b01 (h a i) → Z Y T G h pc' lv (vI (h a i) :: rest)) : Z Y (if 0 ≤ i ∧ i < nI then T else none) G h pc lv (vI i :: vR ad a :: rest) := by
  subst hp
  obtain ⟨p, e, s, m, args, below, meth, c, cells, slots, Q, D, cA, A, H0, hx', hb, hml, hown, hts, hK, hw, hA, hc, hs, rfl, hret⟩ := I
  intro r hT hG H locs ls hP hD hS hl hh
  by_cases q : 0 ≤ i ∧ i < nI
  · rw [if_pos q] at hT
    have e0 : ((a.toNat : Nat) : Int) = a := Int.toNat_of_nonneg ho.1
    have e1 : ((i.toNat : Nat) : Int) = i := Int.toNat_of_nonneg q.1
    have hv : b01 (h a i) := by
      have := hh _ _ ho.2 i.toNat (by omega)
      rwa [e0, e1] at this
    refine va_zald hx' hb hK hP a.toNat 2 (ws_get ho.2) rfl (in_of hn hi q) d ?_
    rw [cl_of hi, e0, e1]
    exact k q hv r hT hG H locs ls hP hD hS hl hh
  · rw [if_neg q] at hT
    cases hT
theorem z_iast (I : Isy l τ ad cc nL own R ret K Y) {n : Nat} {nI : Int} (ho : ok τ (0, n) a) (hi : inR i) (hx : inR x) (hn : (n : Int) = nI) (d : decode cc pc = .ok (.iastore, 1)) (hp : pc + 1 = pc') (k : (0 ≤ i ∧ i < nI) → Z Y T G (upd2 h a i x) pc' lv rest) : Z Y (if 0 ≤ i ∧ i < nI then T else none) G h pc lv (vI x :: vI i :: vR ad a :: rest) := by
  subst hp
  obtain ⟨p, e, s, m, args, below, meth, c, cells, slots, Q, D, cA, A, H0, hx', hb, hml, hown, hts, hK, hw, hA, hc, hs, rfl, hret⟩ := I
  intro r hT hG H locs ls hP hD hS hl hh
  by_cases q : 0 ≤ i ∧ i < nI
  · rw [if_pos q] at hT
    have e0 : ((a.toNat : Nat) : Int) = a := Int.toNat_of_nonneg ho.1
    have e1 : ((i.toNat : Nat) : Int) = i := Int.toNat_of_nonneg q.1
    have hother : ∀ z : Nat, z ≠ a.toNat → ∀ w : Int, h z w = upd2 h a i x z w := fun z hz w => by
      show _ = if (z : Int) = a ∧ w = i then x else h z w
      rw [if_neg (fun u => hz (by omega))]
    refine va_iast hx' hb hK hP hD hS a.toNat 0 (ws_get ho.2) rfl (in_of hn hi q) d (fun H1 locs1 hP1 hD1 hS1 => ?_)
    have hset : (ws τ ad cA h).set a.toNat (ad a.toNat, .inl (cA 0, n, .inl (upd (fun j : Nat => Int32.ofInt (h ((a.toNat : Nat) : Int) j)) (Int32.ofInt i).toNatClampNeg (Int32.ofInt x)))) = ws τ ad cA (upd2 h a i x) := by
      refine ws_set ho.2 ?_ hother
      show (Sum.inl (cA 0, n, .inl _) : va_E) = Sum.inl (cA 0, n, .inl (fun j : Nat => Int32.ofInt (upd2 h a i x ((a.toNat : Nat) : Int) j)))
      refine congrArg (fun z => (Sum.inl (cA 0, n, .inl z) : va_E)) (funext fun j => ?_)
      rw [cl_of hi]
      show (if j = i.toNat then _ else Int32.ofInt (h ((a.toNat : Nat) : Int) j)) = Int32.ofInt (if ((a.toNat : Nat) : Int) = a ∧ (j : Int) = i then x else h ((a.toNat : Nat) : Int) j)
      by_cases w : j = i.toNat
      · rw [if_pos w, if_pos ⟨e0, by omega⟩]
      · rw [if_neg w, if_neg (fun u => w (by omega))]
    rw [hset] at hP1 hD1
    have hh' : hr τ (upd2 h a i x) := by
      refine hr_set hh ho.2 ?_ hother
      intro j hj
      show inR (if ((a.toNat : Nat) : Int) = a ∧ (j : Int) = i then x else h ((a.toNat : Nat) : Int) j)
      by_cases w : (j : Int) = i
      · rw [if_pos ⟨e0, w⟩]
        exact hx
      · rw [if_neg (fun u => w u.2)]
        exact hh _ _ ho.2 j hj
    exact k q r hT hG H1 locs1 ls hP1 hD1 hS1 hl hh'
  · rw [if_neg q] at hT
    cases hT
theorem z_last (I : Isy l τ ad cc nL own R ret K Y) {n : Nat} {nI : Int} (ho : ok τ (1, n) a) (hi : inR i) (hx : inL x) (hn : (n : Int) = nI) (d : decode cc pc = .ok (.lastore, 1)) (hp : pc + 1 = pc') (k : (0 ≤ i ∧ i < nI) → Z Y T G (upd2 h a i x) pc' lv rest) : Z Y (if 0 ≤ i ∧ i < nI then T else none) G h pc lv (vL x :: vI i :: vR ad a :: rest) := by
  subst hp
  obtain ⟨p, e, s, m, args, below, meth, c, cells, slots, Q, D, cA, A, H0, hx', hb, hml, hown, hts, hK, hw, hA, hc, hs, rfl, hret⟩ := I
  intro r hT hG H locs ls hP hD hS hl hh
  by_cases q : 0 ≤ i ∧ i < nI
  · rw [if_pos q] at hT
    have e0 : ((a.toNat : Nat) : Int) = a := Int.toNat_of_nonneg ho.1
    have e1 : ((i.toNat : Nat) : Int) = i := Int.toNat_of_nonneg q.1
    have hother : ∀ z : Nat, z ≠ a.toNat → ∀ w : Int, h z w = upd2 h a i x z w := fun z hz w => by
      show _ = if (z : Int) = a ∧ w = i then x else h z w
      rw [if_neg (fun u => hz (by omega))]
    refine va_last hx' hb hK hP hD hS a.toNat 1 (ws_get ho.2) rfl (in_of hn hi q) d (fun H1 locs1 hP1 hD1 hS1 => ?_)
    have hset : (ws τ ad cA h).set a.toNat (ad a.toNat, .inl (cA 1, n, .inr (.inl (vp_updL (fun j : Nat => Int64.ofInt (h ((a.toNat : Nat) : Int) j)) (Int32.ofInt i).toNatClampNeg (Int64.ofInt x))))) = ws τ ad cA (upd2 h a i x) := by
      refine ws_set ho.2 ?_ hother
      show (Sum.inl (cA 1, n, .inr (.inl _)) : va_E) = Sum.inl (cA 1, n, .inr (.inl (fun j : Nat => Int64.ofInt (upd2 h a i x ((a.toNat : Nat) : Int) j))))
      refine congrArg (fun z => (Sum.inl (cA 1, n, .inr (.inl z)) : va_E)) (funext fun j => ?_)
      rw [cl_of hi]
      show (if j = i.toNat then _ else Int64.ofInt (h ((a.toNat : Nat) : Int) j)) = Int64.ofInt (if ((a.toNat : Nat) : Int) = a ∧ (j : Int) = i then x else h ((a.toNat : Nat) : Int) j)
      by_cases w : j = i.toNat
      · rw [if_pos w, if_pos ⟨e0, by omega⟩]
      · rw [if_neg w, if_neg (fun u => w (by omega))]
    rw [hset] at hP1 hD1
    have hh' : hr τ (upd2 h a i x) := by
      refine hr_set hh ho.2 ?_ hother
      intro j hj
      show inL (if ((a.toNat : Nat) : Int) = a ∧ (j : Int) = i then x else h ((a.toNat : Nat) : Int) j)
      by_cases w : (j : Int) = i
      · rw [if_pos ⟨e0, w⟩]
        exact hx
      · rw [if_neg (fun u => w u.2)]
        exact hh _ _ ho.2 j hj
    exact k q r hT hG H1 locs1 ls hP1 hD1 hS1 hl hh'
  · rw [if_neg q] at hT
    cases hT
theorem z_bast (I : Isy l τ ad cc nL own R ret K Y) {n : Nat} {nI : Int} (ho : ok τ (2, n) a) (hi : inR i) (hx : b01 x) (hn : (n : Int) = nI) (d : decode cc pc = .ok (.bastore, 1)) (hp : pc + 1 = pc') (k : (0 ≤ i ∧ i < nI) → Z Y T G (upd2 h a i x) pc' lv rest) : Z Y (if 0 ≤ i ∧ i < nI then T else none) G h pc lv (vI x :: vI i :: vR ad a :: rest) := by
  subst hp
  obtain ⟨p, e, s, m, args, below, meth, c, cells, slots, Q, D, cA, A, H0, hx', hb, hml, hown, hts, hK, hw, hA, hc, hs, rfl, hret⟩ := I
  intro r hT hG H locs ls hP hD hS hl hh
  by_cases q : 0 ≤ i ∧ i < nI
  · rw [if_pos q] at hT
    have e0 : ((a.toNat : Nat) : Int) = a := Int.toNat_of_nonneg ho.1
    have e1 : ((i.toNat : Nat) : Int) = i := Int.toNat_of_nonneg q.1
    have hother : ∀ z : Nat, z ≠ a.toNat → ∀ w : Int, h z w = upd2 h a i x z w := fun z hz w => by
      show _ = if (z : Int) = a ∧ w = i then x else h z w
      rw [if_neg (fun u => hz (by omega))]
    refine va_zast hx' hb hK hP hD hS a.toNat 2 (ws_get ho.2) rfl (in_of hn hi q) d (fun H1 locs1 hP1 hD1 hS1 => ?_)
    have hset : (ws τ ad cA h).set a.toNat (ad a.toNat, .inl (cA 2, n, .inl (upd (fun j : Nat => Int32.ofInt (h ((a.toNat : Nat) : Int) j)) (Int32.ofInt i).toNatClampNeg (vp_nar .boolean (Int32.ofInt x))))) = ws τ ad cA (upd2 h a i x) := by
      refine ws_set ho.2 ?_ hother
      show (Sum.inl (cA 2, n, .inl _) : va_E) = Sum.inl (cA 2, n, .inl (fun j : Nat => Int32.ofInt (upd2 h a i x ((a.toNat : Nat) : Int) j)))
      refine congrArg (fun z => (Sum.inl (cA 2, n, .inl z) : va_E)) (funext fun j => ?_)
      rw [cl_of hi]
      show (if j = i.toNat then _ else Int32.ofInt (h ((a.toNat : Nat) : Int) j)) = Int32.ofInt (if ((a.toNat : Nat) : Int) = a ∧ (j : Int) = i then x else h ((a.toNat : Nat) : Int) j)
      by_cases w : j = i.toNat
      · rw [if_pos w, if_pos ⟨e0, by omega⟩]
        rcases hx with rfl | rfl <;> rfl
      · rw [if_neg w, if_neg (fun u => w (by omega))]
    rw [hset] at hP1 hD1
    have hh' : hr τ (upd2 h a i x) := by
      refine hr_set hh ho.2 ?_ hother
      intro j hj
      show b01 (if ((a.toNat : Nat) : Int) = a ∧ (j : Int) = i then x else h ((a.toNat : Nat) : Int) j)
      by_cases w : (j : Int) = i
      · rw [if_pos ⟨e0, w⟩]
        exact hx
      · rw [if_neg (fun u => w u.2)]
        exact hh _ _ ho.2 j hj
    exact k q r hT hG H1 locs1 ls hP1 hD1 hS1 hl hh'
  · rw [if_neg q] at hT
    cases hT
theorem arrRT (D : va_G) (cA : Nat → ClassId) {s : State} (hK : va_K D CL (tysOf cA) s) (r : Nat) : ∃ ty : FieldType, ty.isReference = true ∧ ArrOfT s (cA (RTa r)) ty := by
  match r with
  | 0 => exact ⟨.array .int, rfl, (hK.2 3 _ rfl).1⟩
  | 1 => exact ⟨.array .int, rfl, (hK.2 3 _ rfl).1⟩
  | 2 => exact ⟨.object "CopyBench$Tape", rfl, (hK.2 4 _ rfl).1⟩
  | n + 3 => exact ⟨.array .long, rfl, (hK.2 5 _ rfl).1⟩
theorem z_aald (I : Isy l τ ad cc nL own R ret K Y) {r : Nat} (nI c0 s0 : Int) {eI : Int} (ho : ok τ (3, r) a) (hi : inR i) (hn : (RTn r : Int) = nI) (hc0 : (RTo r : Int) = c0) (hs0 : (RTs r : Int) = s0) (he : a + c0 + s0 * i = eI) (d : decode cc pc = .ok (.aaload, 1)) (hp : pc + 1 = pc') (k : (0 ≤ i ∧ i < nI) → Z Y T G h pc' lv (vR ad eI :: rest)) : Z Y (if 0 ≤ i ∧ i < nI then T else none) G h pc lv (vI i :: vR ad a :: rest) := by
  subst hp
  obtain ⟨p, e, s, m, args, below, meth, c, cells, slots, Q, D, cA, A, H0, hx', hb, hml, hown, hts, hK, hw, hA, hc, hs, rfl, hret⟩ := I
  intro rr hT hG H locs ls hP hD hS hl hh
  by_cases q : 0 ≤ i ∧ i < nI
  · rw [if_pos q] at hT
    obtain ⟨ty, hty, harr⟩ := arrRT D cA hK r
    have hin := in_of hn hi q
    have h0 := ho.1
    have hlt : i.toNat < RTn r := by omega
    have hcell : H[ad a.toNat]? = some (arrV (cA (RTa r)) (RTn r) (fun j => va_rf (some (ad (a.toNat + RTo r + RTs r * j))))) := hP a.toNat _ (ws_get ho.2)
    have e1 : ((RTs r * i.toNat : Nat) : Int) = s0 * i := by rw [Int.natCast_mul, hs0, Int.toNat_of_nonneg q.1]
    have e2 : eI.toNat = a.toNat + RTo r + RTs r * i.toNat := by omega
    refine W.aald (v := .ref (ad eI.toNat)) (ty := ty) hx' hb hcell (harr _ _) hty (fun z => by cases z) (by rw [arrV_size]; exact hin) ?_ rfl rfl d ?_
    · rw [cl_of hi, arrV_read _ _ hlt, e2]
      rfl
    · exact k q rr hT hG H locs ls hP hD hS hl hh
  · rw [if_neg q] at hT
    cases hT
theorem z_alen (I : Isy l τ ad cc nL own R ret K Y) {n : Nat} {nI : Int} (ho : ok τ (0, n) a) (hn : (n : Int) = nI) (d : decode cc pc = .ok (.arraylength, 1)) (hp : pc + 1 = pc') (k : Z Y T G h pc' lv (vI nI :: rest)) : Z Y T G h pc lv (vR ad a :: rest) := by
  subst hp
  obtain ⟨p, e, s, m, args, below, meth, c, cells, slots, Q, D, cA, A, H0, hx', hb, hml, hown, hts, hK, hw, hA, hc, hs, rfl, hret⟩ := I
  intro rr hT hG H locs ls hP hD hS hl hh
  exact va_alen (v := Int32.ofInt nI) hx' hb hK hP a.toNat 0 (ws_get ho.2) rfl (by rw [← hn]; rfl) d (k rr hT hG H locs ls hP hD hS hl hh)
theorem z_icpy (I : Isy l τ ad cc nL own R ret K Y) {index n0 n1 : Nat} {m0 m1 b sp dp n : Int} (ho : ok τ (0, n0) a) (ho1 : ok τ (0, n1) b) (hm0 : (n0 : Int) = m0) (hm1 : (n1 : Int) = m1) (hsp : inR sp) (hdp : inR dp) (hn : inR n) (hml0 : Cond.methodLink own index arraycopyName ∈ gd) (hfr : 1 ≤ R.frames) (hlo : (rest.map fun v => v.category).sum + (nativeFrameWords "java/lang/System" "arraycopy" 5 + 11) ≤ R.locals) (d : decode cc pc = .ok (.invokestatic index, 3)) (hp : pc + 3 = pc') (k : Z Y T G (blit h a sp b dp n) pc' lv rest) : Z Y (if 0 ≤ sp ∧ 0 ≤ dp ∧ 0 ≤ n ∧ sp + n ≤ m0 ∧ dp + n ≤ m1 then T else none) G h pc lv (vI n :: vI dp :: vR ad b :: vI sp :: vR ad a :: rest) := by
  subst hp
  obtain ⟨p, e, s, m, args, below, meth, c, cells, slots, Q, D, cA, A, H0, hx', hb, hml, hown, hts, hK, hw, hA, hc, hs, rfl, hret⟩ := I
  intro rr hT hG H locs ls hP hD hS hl hh
  by_cases q : 0 ≤ sp ∧ 0 ≤ dp ∧ 0 ≤ n ∧ sp + n ≤ m0 ∧ dp + n ≤ m1
  · rw [if_pos q] at hT
    have e0 : ((a.toNat : Nat) : Int) = a := Int.toNat_of_nonneg ho.1
    have e1 : ((b.toNat : Nat) : Int) = b := Int.toNat_of_nonneg ho1.1
    have nn : ∀ w : Int, inR w → 0 ≤ w → ¬ Int32.ofInt w < 0 := fun w hw h0 z => by
      have := (lt32 hw (inR_c (x := 0) rfl)).mp z
      omega
    have hother : ∀ z : Nat, z ≠ b.toNat → ∀ w : Int, h z w = blit h a sp b dp n z w := fun z hz w => by
      show _ = if (z : Int) = b ∧ dp ≤ w ∧ w < dp + n then _ else h z w
      rw [if_neg (fun u => hz (by omega))]
    refine va_copyi hx' hb (hml.trans hl.1.symm) hown (hts _ hml0) (hts _ jna_arraycopy) (hts _ jst_arraycopy) (hts _ ini_Jsystem) hK hP hD hS a.toNat b.toNat 0 0 (ws_get ho.2) (ws_get ho1.2) rfl rfl rfl (nn _ hsp q.1) (nn _ hdp q.2.1) (nn _ hn q.2.2.1) (by rw [cl_of hsp, cl_of hn]; omega) (by rw [cl_of hdp, cl_of hn]; omega) ?_ hfr hlo d (fun H1 locs1 hP1 hD1 hS1 => ?_)
    · intro j hj
      rfl
    · have hset : (ws τ ad cA h).set b.toNat (ad b.toNat, .inl (cA 0, n1, .inl (va_cpy (fun j : Nat => Int32.ofInt (h ((a.toNat : Nat) : Int) j)) (fun j : Nat => Int32.ofInt (h ((b.toNat : Nat) : Int) j)) (Int32.ofInt sp).toNatClampNeg (Int32.ofInt dp).toNatClampNeg (Int32.ofInt n).toNatClampNeg))) = ws τ ad cA (blit h a sp b dp n) := by
        refine ws_set ho1.2 ?_ hother
        show (Sum.inl (cA 0, n1, .inl _) : va_E) = Sum.inl (cA 0, n1, .inl (fun j : Nat => Int32.ofInt (blit h a sp b dp n ((b.toNat : Nat) : Int) j)))
        refine congrArg (fun z => (Sum.inl (cA 0, n1, .inl z) : va_E)) (funext fun j => ?_)
        rw [cl_of hsp, cl_of hdp, cl_of hn]
        show (if dp.toNat ≤ j ∧ j < dp.toNat + n.toNat then Int32.ofInt (h ((a.toNat : Nat) : Int) ((sp.toNat + (j - dp.toNat) : Nat) : Int)) else Int32.ofInt (h ((b.toNat : Nat) : Int) j)) = Int32.ofInt (if ((b.toNat : Nat) : Int) = b ∧ dp ≤ (j : Int) ∧ (j : Int) < dp + n then h a (sp + ((j : Int) - dp)) else h ((b.toNat : Nat) : Int) j)
        by_cases w : dp.toNat ≤ j ∧ j < dp.toNat + n.toNat
        · rw [if_pos w, if_pos ⟨e1, by omega, by omega⟩, e0, show ((sp.toNat + (j - dp.toNat) : Nat) : Int) = sp + ((j : Int) - dp) by omega]
        · rw [if_neg w, if_neg (fun u => w ⟨by omega, by omega⟩)]
      rw [hset] at hP1 hD1
      have hh' : hr τ (blit h a sp b dp n) := by
        refine hr_set hh ho1.2 ?_ hother
        intro j hj
        show inR (if ((b.toNat : Nat) : Int) = b ∧ dp ≤ (j : Int) ∧ (j : Int) < dp + n then h a (sp + ((j : Int) - dp)) else h ((b.toNat : Nat) : Int) j)
        by_cases w : dp ≤ (j : Int) ∧ (j : Int) < dp + n
        · rw [if_pos ⟨e1, w⟩]
          have := hh _ _ ho.2 (sp + ((j : Int) - dp)).toNat (by omega)
          rwa [e0, show (((sp + ((j : Int) - dp)).toNat : Nat) : Int) = sp + ((j : Int) - dp) by omega] at this
        · rw [if_neg (fun u => w u.2)]
          exact hh _ _ ho1.2 j hj
      exact k rr hT hG H1 locs1 ls hP1 hD1 hS1 hl hh'
  · rw [if_neg q] at hT
    cases hT
theorem z_bcpy (I : Isy l τ ad cc nL own R ret K Y) {index n0 n1 : Nat} {m0 m1 b sp dp n : Int} (ho : ok τ (2, n0) a) (ho1 : ok τ (2, n1) b) (hm0 : (n0 : Int) = m0) (hm1 : (n1 : Int) = m1) (hsp : inR sp) (hdp : inR dp) (hn : inR n) (hml0 : Cond.methodLink own index arraycopyName ∈ gd) (hfr : 1 ≤ R.frames) (hlo : (rest.map fun v => v.category).sum + (nativeFrameWords "java/lang/System" "arraycopy" 5 + 11) ≤ R.locals) (d : decode cc pc = .ok (.invokestatic index, 3)) (hp : pc + 3 = pc') (k : Z Y T G (blit h a sp b dp n) pc' lv rest) : Z Y (if 0 ≤ sp ∧ 0 ≤ dp ∧ 0 ≤ n ∧ sp + n ≤ m0 ∧ dp + n ≤ m1 then T else none) G h pc lv (vI n :: vI dp :: vR ad b :: vI sp :: vR ad a :: rest) := by
  subst hp
  obtain ⟨p, e, s, m, args, below, meth, c, cells, slots, Q, D, cA, A, H0, hx', hb, hml, hown, hts, hK, hw, hA, hc, hs, rfl, hret⟩ := I
  intro rr hT hG H locs ls hP hD hS hl hh
  by_cases q : 0 ≤ sp ∧ 0 ≤ dp ∧ 0 ≤ n ∧ sp + n ≤ m0 ∧ dp + n ≤ m1
  · rw [if_pos q] at hT
    have e0 : ((a.toNat : Nat) : Int) = a := Int.toNat_of_nonneg ho.1
    have e1 : ((b.toNat : Nat) : Int) = b := Int.toNat_of_nonneg ho1.1
    have nn : ∀ w : Int, inR w → 0 ≤ w → ¬ Int32.ofInt w < 0 := fun w hw h0 z => by
      have := (lt32 hw (inR_c (x := 0) rfl)).mp z
      omega
    have hother : ∀ z : Nat, z ≠ b.toNat → ∀ w : Int, h z w = blit h a sp b dp n z w := fun z hz w => by
      show _ = if (z : Int) = b ∧ dp ≤ w ∧ w < dp + n then _ else h z w
      rw [if_neg (fun u => hz (by omega))]
    refine va_copyi hx' hb (hml.trans hl.1.symm) hown (hts _ hml0) (hts _ jna_arraycopy) (hts _ jst_arraycopy) (hts _ ini_Jsystem) hK hP hD hS a.toNat b.toNat 2 2 (ws_get ho.2) (ws_get ho1.2) rfl rfl rfl (nn _ hsp q.1) (nn _ hdp q.2.1) (nn _ hn q.2.2.1) (by rw [cl_of hsp, cl_of hn]; omega) (by rw [cl_of hdp, cl_of hn]; omega) ?_ hfr hlo d (fun H1 locs1 hP1 hD1 hS1 => ?_)
    · intro j hj
      rw [cl_of hsp]
      have hq := hh _ _ ho.2 (sp.toNat + j) (by rw [cl_of hn] at hj; omega)
      rcases hq with hq | hq <;> (rw [hq]; rfl)
    · have hset : (ws τ ad cA h).set b.toNat (ad b.toNat, .inl (cA 2, n1, .inl (va_cpy (fun j : Nat => Int32.ofInt (h ((a.toNat : Nat) : Int) j)) (fun j : Nat => Int32.ofInt (h ((b.toNat : Nat) : Int) j)) (Int32.ofInt sp).toNatClampNeg (Int32.ofInt dp).toNatClampNeg (Int32.ofInt n).toNatClampNeg))) = ws τ ad cA (blit h a sp b dp n) := by
        refine ws_set ho1.2 ?_ hother
        show (Sum.inl (cA 2, n1, .inl _) : va_E) = Sum.inl (cA 2, n1, .inl (fun j : Nat => Int32.ofInt (blit h a sp b dp n ((b.toNat : Nat) : Int) j)))
        refine congrArg (fun z => (Sum.inl (cA 2, n1, .inl z) : va_E)) (funext fun j => ?_)
        rw [cl_of hsp, cl_of hdp, cl_of hn]
        show (if dp.toNat ≤ j ∧ j < dp.toNat + n.toNat then Int32.ofInt (h ((a.toNat : Nat) : Int) ((sp.toNat + (j - dp.toNat) : Nat) : Int)) else Int32.ofInt (h ((b.toNat : Nat) : Int) j)) = Int32.ofInt (if ((b.toNat : Nat) : Int) = b ∧ dp ≤ (j : Int) ∧ (j : Int) < dp + n then h a (sp + ((j : Int) - dp)) else h ((b.toNat : Nat) : Int) j)
        by_cases w : dp.toNat ≤ j ∧ j < dp.toNat + n.toNat
        · rw [if_pos w, if_pos ⟨e1, by omega, by omega⟩, e0, show ((sp.toNat + (j - dp.toNat) : Nat) : Int) = sp + ((j : Int) - dp) by omega]
        · rw [if_neg w, if_neg (fun u => w ⟨by omega, by omega⟩)]
      rw [hset] at hP1 hD1
      have hh' : hr τ (blit h a sp b dp n) := by
        refine hr_set hh ho1.2 ?_ hother
        intro j hj
        show b01 (if ((b.toNat : Nat) : Int) = b ∧ dp ≤ (j : Int) ∧ (j : Int) < dp + n then h a (sp + ((j : Int) - dp)) else h ((b.toNat : Nat) : Int) j)
        by_cases w : dp ≤ (j : Int) ∧ (j : Int) < dp + n
        · rw [if_pos ⟨e1, w⟩]
          have := hh _ _ ho.2 (sp + ((j : Int) - dp)).toNat (by omega)
          rwa [e0, show (((sp + ((j : Int) - dp)).toNat : Nat) : Int) = sp + ((j : Int) - dp) by omega] at this
        · rw [if_neg (fun u => w u.2)]
          exact hh _ _ ho1.2 j hj
      exact k rr hT hG H1 locs1 ls hP1 hD1 hS1 hl hh'
  · rw [if_neg q] at hT
    cases hT
theorem z_lcpy (I : Isy l τ ad cc nL own R ret K Y) {index n0 n1 : Nat} {m0 m1 b sp dp n : Int} (ho : ok τ (1, n0) a) (ho1 : ok τ (1, n1) b) (hm0 : (n0 : Int) = m0) (hm1 : (n1 : Int) = m1) (hsp : inR sp) (hdp : inR dp) (hn : inR n) (hml0 : Cond.methodLink own index arraycopyName ∈ gd) (hfr : 1 ≤ R.frames) (hlo : (rest.map fun v => v.category).sum + (nativeFrameWords "java/lang/System" "arraycopy" 5 + 11) ≤ R.locals) (d : decode cc pc = .ok (.invokestatic index, 3)) (hp : pc + 3 = pc') (k : Z Y T G (blit h a sp b dp n) pc' lv rest) : Z Y (if 0 ≤ sp ∧ 0 ≤ dp ∧ 0 ≤ n ∧ sp + n ≤ m0 ∧ dp + n ≤ m1 then T else none) G h pc lv (vI n :: vI dp :: vR ad b :: vI sp :: vR ad a :: rest) := by
  subst hp
  obtain ⟨p, e, s, m, args, below, meth, c, cells, slots, Q, D, cA, A, H0, hx', hb, hml, hown, hts, hK, hw, hA, hc, hs, rfl, hret⟩ := I
  intro rr hT hG H locs ls hP hD hS hl hh
  by_cases q : 0 ≤ sp ∧ 0 ≤ dp ∧ 0 ≤ n ∧ sp + n ≤ m0 ∧ dp + n ≤ m1
  · rw [if_pos q] at hT
    have e0 : ((a.toNat : Nat) : Int) = a := Int.toNat_of_nonneg ho.1
    have e1 : ((b.toNat : Nat) : Int) = b := Int.toNat_of_nonneg ho1.1
    have nn : ∀ w : Int, inR w → 0 ≤ w → ¬ Int32.ofInt w < 0 := fun w hw h0 z => by
      have := (lt32 hw (inR_c (x := 0) rfl)).mp z
      omega
    have hother : ∀ z : Nat, z ≠ b.toNat → ∀ w : Int, h z w = blit h a sp b dp n z w := fun z hz w => by
      show _ = if (z : Int) = b ∧ dp ≤ w ∧ w < dp + n then _ else h z w
      rw [if_neg (fun u => hz (by omega))]
    refine va_copyl hx' hb (hml.trans hl.1.symm) hown (hts _ hml0) (hts _ jna_arraycopy) (hts _ jst_arraycopy) (hts _ ini_Jsystem) hK hP hD hS a.toNat b.toNat 1 1 (ws_get ho.2) (ws_get ho1.2) rfl rfl rfl (nn _ hsp q.1) (nn _ hdp q.2.1) (nn _ hn q.2.2.1) (by rw [cl_of hsp, cl_of hn]; omega) (by rw [cl_of hdp, cl_of hn]; omega) ?_ hfr hlo d (fun H1 locs1 hP1 hD1 hS1 => ?_)
    · intro j hj
      rfl
    · have hset : (ws τ ad cA h).set b.toNat (ad b.toNat, .inl (cA 1, n1, .inr (.inl (va_cpy (fun j : Nat => Int64.ofInt (h ((a.toNat : Nat) : Int) j)) (fun j : Nat => Int64.ofInt (h ((b.toNat : Nat) : Int) j)) (Int32.ofInt sp).toNatClampNeg (Int32.ofInt dp).toNatClampNeg (Int32.ofInt n).toNatClampNeg)))) = ws τ ad cA (blit h a sp b dp n) := by
        refine ws_set ho1.2 ?_ hother
        show (Sum.inl (cA 1, n1, .inr (.inl _)) : va_E) = Sum.inl (cA 1, n1, .inr (.inl (fun j : Nat => Int64.ofInt (blit h a sp b dp n ((b.toNat : Nat) : Int) j))))
        refine congrArg (fun z => (Sum.inl (cA 1, n1, .inr (.inl z)) : va_E)) (funext fun j => ?_)
        rw [cl_of hsp, cl_of hdp, cl_of hn]
        show (if dp.toNat ≤ j ∧ j < dp.toNat + n.toNat then Int64.ofInt (h ((a.toNat : Nat) : Int) ((sp.toNat + (j - dp.toNat) : Nat) : Int)) else Int64.ofInt (h ((b.toNat : Nat) : Int) j)) = Int64.ofInt (if ((b.toNat : Nat) : Int) = b ∧ dp ≤ (j : Int) ∧ (j : Int) < dp + n then h a (sp + ((j : Int) - dp)) else h ((b.toNat : Nat) : Int) j)
        by_cases w : dp.toNat ≤ j ∧ j < dp.toNat + n.toNat
        · rw [if_pos w, if_pos ⟨e1, by omega, by omega⟩, e0, show ((sp.toNat + (j - dp.toNat) : Nat) : Int) = sp + ((j : Int) - dp) by omega]
        · rw [if_neg w, if_neg (fun u => w ⟨by omega, by omega⟩)]
      rw [hset] at hP1 hD1
      have hh' : hr τ (blit h a sp b dp n) := by
        refine hr_set hh ho1.2 ?_ hother
        intro j hj
        show inL (if ((b.toNat : Nat) : Int) = b ∧ dp ≤ (j : Int) ∧ (j : Int) < dp + n then h a (sp + ((j : Int) - dp)) else h ((b.toNat : Nat) : Int) j)
        by_cases w : dp ≤ (j : Int) ∧ (j : Int) < dp + n
        · rw [if_pos ⟨e1, w⟩]
          have := hh _ _ ho.2 (sp + ((j : Int) - dp)).toNat (by omega)
          rwa [e0, show (((sp + ((j : Int) - dp)).toNat : Nat) : Int) = sp + ((j : Int) - dp) by omega] at this
        · rw [if_neg (fun u => w u.2)]
          exact hh _ _ ho1.2 j hj
      exact k rr hT hG H1 locs1 ls hP1 hD1 hS1 hl hh'
  · rw [if_neg q] at hT
    cases hT
theorem z_mmax (I : Isy l τ ad cc nL own R ret K Y) {index : Nat} (hx : inR x) (hy : inR y) (hm : Cond.methodLink own index Lib.Math.max.name ∈ gd) (hfr : 1 ≤ R.frames) (hlo : (rest.map fun v => v.category).sum + 13 ≤ R.locals) (d : decode cc pc = .ok (.invokestatic index, 3)) (hp : pc + 3 = pc') (k : inR (if x < y then y else x) → Z Y T G h pc' lv (vI (if x < y then y else x) :: rest)) : Z Y T G h pc lv (vI y :: vI x :: rest) := by
  subst hp
  obtain ⟨p, e, s, m, args, below, meth, c, cells, slots, Q, D, cA, A, H0, hx', hb, hml, hown, hts, hK, hw, hA, hc, hs, rfl, hret⟩ := I
  intro rr hT hG H locs ls hP hD hS hl hh
  refine va_mmax hx' hb (hml.trans hl.1.symm) hown (hts _ hm) (hts _ jst_max) (hts _ ini_Jmath) (hts _ jco_max) hfr hlo hc hs d ?_
  have e1 : (if Int32.ofInt x < Int32.ofInt y then Int32.ofInt y else Int32.ofInt x : Int32) = Int32.ofInt (if x < y then y else x) := by
    by_cases q : x < y
    · rw [if_pos q, if_pos ((lt32 hx hy).mpr q)]
    · rw [if_neg q, if_neg (fun z => q ((lt32 hx hy).mp z))]
  rw [e1]
  exact k (by split <;> assumption) rr hT hG H locs ls hP hD hS hl hh
theorem z_mmin (I : Isy l τ ad cc nL own R ret K Y) {index : Nat} (hx : inR x) (hy : inR y) (hm : Cond.methodLink own index Lib.Math.min.name ∈ gd) (hfr : 1 ≤ R.frames) (hlo : (rest.map fun v => v.category).sum + 13 ≤ R.locals) (d : decode cc pc = .ok (.invokestatic index, 3)) (hp : pc + 3 = pc') (k : inR (if y < x then y else x) → Z Y T G h pc' lv (vI (if y < x then y else x) :: rest)) : Z Y T G h pc lv (vI y :: vI x :: rest) := by
  subst hp
  obtain ⟨p, e, s, m, args, below, meth, c, cells, slots, Q, D, cA, A, H0, hx', hb, hml, hown, hts, hK, hw, hA, hc, hs, rfl, hret⟩ := I
  intro rr hT hG H locs ls hP hD hS hl hh
  refine va_mmin hx' hb (hml.trans hl.1.symm) hown (hts _ hm) (hts _ jst_min) (hts _ ini_Jmath) (hts _ jco_min) hfr hlo hc hs d ?_
  have e1 : (if Int32.ofInt y < Int32.ofInt x then Int32.ofInt y else Int32.ofInt x : Int32) = Int32.ofInt (if y < x then y else x) := by
    by_cases q : y < x
    · rw [if_pos q, if_pos ((lt32 hy hx).mpr q)]
    · rw [if_neg q, if_neg (fun z => q ((lt32 hy hx).mp z))]
  rw [e1]
  exact k (by split <;> assumption) rr hT hG H locs ls hP hD hS hl hh
theorem z_mabs (I : Isy l τ ad cc nL own R ret K Y) {index : Nat} (hx : inR x) (hm : Cond.methodLink own index Lib.Math.abs.name ∈ gd) (hfr : 1 ≤ R.frames) (hlo : (rest.map fun v => v.category).sum + 13 ≤ R.locals) (d : decode cc pc = .ok (.invokestatic index, 3)) (hp : pc + 3 = pc') (k : Z Y T G h pc' lv (vI (if 0 ≤ x then x else w32 (-x)) :: rest)) : Z Y T G h pc lv (vI x :: rest) := by
  subst hp
  obtain ⟨p, e, s, m, args, below, meth, c, cells, slots, Q, D, cA, A, H0, hx', hb, hml, hown, hts, hK, hw, hA, hc, hs, rfl, hret⟩ := I
  intro rr hT hG H locs ls hP hD hS hl hh
  refine va_mabs hx' hb (hml.trans hl.1.symm) hown (hts _ hm) (hts _ jst_abs) (hts _ ini_Jmath) (hts _ jco_abs) hfr hlo hc hs d ?_
  have e1 : (if 0 ≤ Int32.ofInt x then Int32.ofInt x else 0 - Int32.ofInt x : Int32) = Int32.ofInt (if 0 ≤ x then x else w32 (-x)) := by
    have z0 : (0 : Int32) = Int32.ofInt 0 := rfl
    rw [z0]
    by_cases q : 0 ≤ x
    · rw [if_pos q, if_pos ((le32 (inR_c rfl) hx).mpr q)]
    · rw [if_neg q, if_neg (fun z => q ((le32 (inR_c rfl) hx).mp z)), ofI32, sub32, Int.zero_sub]
  rw [e1]
  exact k rr hT hG H locs ls hP hD hS hl hh
end RowsB
