/-! ===== element, rename, value, set, child ===== -/
theorem rl_E_nm {ec root : Int32} {iu nm pp ct kc yp : Nat → Int32} {e n : Nat} (h : rl_E ec root iu nm pp ct kc yp) (hn : n < 6) : rl_E ec root iu (upd nm e (nI n)) pp ct kc yp := by
  obtain ⟨h1, h2, h3, po, c, ch, g, rk, a1, a2, a3, a4, a5⟩ := h
  refine ⟨h1, h2, h3, po, c, ch, fun i => if i = e then n else g i, rk, a1, fun i hi => ?_, a3, a4, a5⟩
  unfold upd
  by_cases q : i = e
  · simp only [if_pos q]; exact ⟨trivial, hn⟩
  · simp only [if_neg q]; exact a2 i hi
theorem i_vc_element {k : Nat} {u : SX} {v : SY} (I : i_Rel k u v) (hk : k + 5 ≤ 2560) (v1 : Int32) (v2 : Int32) : wpX_element (fun r u' => wpY_element (fun r' v' => r' = r ∧ i_Rel (k + 5) u' v') v v1 v2) u v1 v2 := by
  refine i_el I (P := fun u v => wpX_element (fun r u' => wpY_element (fun r' v' => r' = r ∧ i_Rel (k + 5) u' v') v v1 v2) u v1 v2) ?_
  intro d latestPlace positions fragments elementCount draftKind draftValue weights tokenAt fragmentBegin fragmentFirst fragmentLast fragmentEmpty reachedWith follow bearing accepting kindOfType leastOf greatestOf listedCount listedValue attributeUse attributeType typeOfName inUse nameOf parentOf kidCount kids hasValue valueOf hasAttribute attributeValue walked waiting yroot yrowLength yfirst youts ytop ykind ywith ysize yparent yrow yends ylack yshortest youtKind youtWith ywork yworkWith yweight yfollow yfirsts ylasts ybare ymet ynameAt ytokenAt ytodo hD hT hM hE
  unfold wpX_element
  rcases nb_ix v1 6 (by omega) with hv | ⟨t, ht, rfl⟩
  · refine sx_name0 hv ?_
    refine br_t rfl ?_
    try unfold wpY_element
    refine sy_out1 (n := 6) (by omega) hv ?_
    refine br_f nb_10 ?_
    exact ⟨rfl, i_mk hD hT hM hE⟩
  · have vt : vp_in (nI t) 6 := vp_in_nI ht (by omega)
    have ec : (nI t).toNatClampNeg = t := nb_cl (by omega)
    refine sx_name1 ht ?_
    refine br_f nb_10 ?_
    by_cases hm : v2 = -1
    · subst hm
      refine br_t rfl ⟨vt, nm_r (by rw [ec]) ?_⟩
      try unfold wpY_element
      refine sy_out0 (n := 6) (by omega) ht ?_
      refine br_t rfl ?_
      refine br_f (by decide) ?_
      refine br_t (by decide) ?_
      exact ⟨vt, nm_r (by rw [ec, nb_m8]) ⟨rfl, i_mk hD (rl_T_tn hT (Or.inl rfl)) hM hE⟩⟩
    · refine br_f hm ?_
      rcases nb_ix v2 6 (by omega) with hv2 | ⟨s, hs, rfl⟩
      · refine sx_type0 hv2 ?_
        refine br_t rfl ?_
        try unfold wpY_element
        refine sy_out0 (n := 6) (by omega) ht ?_
        refine br_t rfl ?_
        by_cases h0 : v2 < -1
        · exact br_t h0 ⟨rfl, i_mk hD hT hM hE⟩
        · refine br_f h0 (br_f ?_ ⟨rfl, i_mk hD hT hM hE⟩)
          have a1 : (-1 : Int32).toInt = -1 := by decide
          have a2 : (5 : Int32).toInt = 5 := by decide
          have a3 : (0 : Int32).toInt = 0 := by decide
          have a4 : (nI 6).toInt = 6 := by decide
          rw [Int32.le_iff_toInt_le]
          rw [Int32.lt_iff_toInt_lt] at h0
          rw [Int32.lt_iff_toInt_lt, Int32.le_iff_toInt_le] at hv2
          have hm' : v2.toInt ≠ -1 := fun e => hm (Int32.toInt_inj.mp (e.trans a1.symm))
          omega
      · refine sx_type1 hs ?_
        refine br_f nb_10 ?_
        refine ⟨vt, nm_r (by rw [ec]) ?_⟩
        try unfold wpY_element
        refine sy_out0 (n := 6) (by omega) ht ?_
        refine br_t rfl ?_
        refine br_f ?_ (br_t (nI_le (b := 5) (by omega) (by decide)) ⟨vt, nm_r (by rw [ec, nb_v8 (by omega)]) ⟨rfl, i_mk hD (rl_T_tn hT (Or.inr ⟨s, hs, rfl⟩)) hM hE⟩⟩)
        have a1 : (-1 : Int32).toInt = -1 := by decide
        rw [Int32.lt_iff_toInt_lt, nI_toInt (by omega)]
        omega
theorem i_vc_rename {k : Nat} {u : SX} {v : SY} (I : i_Rel k u v) (hk : k + 5 ≤ 2560) (v1 : Int32) (v2 : Int32) : wpX_rename (fun r u' => wpY_rename (fun r' v' => r' = r ∧ i_Rel (k + 5) u' v') v v1 v2) u v1 v2 := by
  refine i_el I (P := fun u v => wpX_rename (fun r u' => wpY_rename (fun r' v' => r' = r ∧ i_Rel (k + 5) u' v') v v1 v2) u v1 v2) ?_
  intro d latestPlace positions fragments elementCount draftKind draftValue weights tokenAt fragmentBegin fragmentFirst fragmentLast fragmentEmpty reachedWith follow bearing accepting kindOfType leastOf greatestOf listedCount listedValue attributeUse attributeType typeOfName inUse nameOf parentOf kidCount kids hasValue valueOf hasAttribute attributeValue walked waiting yroot yrowLength yfirst youts ytop ykind ywith ysize yparent yrow yends ylack yshortest youtKind youtWith ywork yworkWith yweight yfollow yfirsts ylasts ybare ymet ynameAt ytokenAt ytodo hD hT hM hE
  unfold wpX_rename
  rcases el_cs inUse v1 with hv | ⟨e, he, rfl, hu⟩
  · refine sx_elem0 hv ?_
    refine br_t rfl ?_
    try unfold wpY_rename
    refine sy_no1 hv ?_
    refine br_f nb_10 ?_
    exact ⟨rfl, i_mk hD hT hM hE⟩
  · have ve : vp_in (nI e) 24 := vp_in_nI he (by omega)
    have ec : (nI e).toNatClampNeg = e := nb_cl (by omega)
    refine sx_elem1 he hu ?_
    refine br_f nb_10 ?_
    rcases nb_ix v2 6 (by omega) with hv2 | ⟨n, hn, rfl⟩
    · refine sx_name0 hv2 ?_
      refine br_t rfl ?_
      try unfold wpY_rename
      refine sy_no0 he hu ?_
      refine br_t rfl ?_
      refine sy_out1 (n := 6) (by omega) hv2 ?_
      refine br_f nb_10 ?_
      exact ⟨rfl, i_mk hD hT hM hE⟩
    · refine sx_name1 hn ?_
      refine br_f nb_10 ?_
      refine ⟨ve, nm_r (by rw [ec]) ?_⟩
      try unfold wpY_rename
      refine sy_no0 he hu ?_
      refine br_t rfl ?_
      refine sy_out0 (n := 6) (by omega) hn ?_
      exact br_t rfl ⟨ve, nm_r (by rw [ec, nb_v8 (by omega)]) ⟨rfl, i_mk hD hT hM (rl_E_nm hE hn)⟩⟩
theorem i_vc_value {k : Nat} {u : SX} {v : SY} (I : i_Rel k u v) (hk : k + 5 ≤ 2560) (v1 : Int32) (v2 : Int32) (v3 : Int32) : wpX_value (fun r u' => wpY_value (fun r' v' => r' = r ∧ i_Rel (k + 5) u' v') v v1 (lw_bz v2) v3) u v1 (lw_bz v2) v3 := by
  refine i_el I (P := fun u v => wpX_value (fun r u' => wpY_value (fun r' v' => r' = r ∧ i_Rel (k + 5) u' v') v v1 (lw_bz v2) v3) u v1 (lw_bz v2) v3) ?_
  intro d latestPlace positions fragments elementCount draftKind draftValue weights tokenAt fragmentBegin fragmentFirst fragmentLast fragmentEmpty reachedWith follow bearing accepting kindOfType leastOf greatestOf listedCount listedValue attributeUse attributeType typeOfName inUse nameOf parentOf kidCount kids hasValue valueOf hasAttribute attributeValue walked waiting yroot yrowLength yfirst youts ytop ykind ywith ysize yparent yrow yends ylack yshortest youtKind youtWith ywork yworkWith yweight yfollow yfirsts ylasts ybare ymet ynameAt ytokenAt ytodo hD hT hM hE
  unfold wpX_value
  rcases el_cs inUse v1 with hv | ⟨e, he, rfl, hu⟩
  · refine sx_elem0 hv ?_
    refine br_t rfl ?_
    try unfold wpY_value
    refine sy_no1 hv ?_
    refine br_f nb_10 ?_
    exact ⟨rfl, i_mk hD hT hM hE⟩
  · have ve : vp_in (nI e) 24 := vp_in_nI he (by omega)
    have ec : (nI e).toNatClampNeg = e := nb_cl (by omega)
    refine sx_elem1 he hu ?_
    refine br_f nb_10 ?_
    refine ⟨ve, nm_e ⟨ve, nm_e ?_⟩⟩
    try unfold wpY_value
    refine sy_no0 he hu ?_
    exact br_t rfl ⟨ve, nm_e ⟨ve, nm_e ⟨rfl, i_mk hD hT hM hE⟩⟩⟩
theorem i_vc_set {k : Nat} {u : SX} {v : SY} (I : i_Rel k u v) (hk : k + 5 ≤ 2560) (v1 : Int32) (v2 : Int32) (v3 : Int32) (v4 : Int32) : wpX_set (fun r u' => wpY_set (fun r' v' => r' = r ∧ i_Rel (k + 5) u' v') v v1 v2 (lw_bz v3) v4) u v1 v2 (lw_bz v3) v4 := by
  refine i_el I (P := fun u v => wpX_set (fun r u' => wpY_set (fun r' v' => r' = r ∧ i_Rel (k + 5) u' v') v v1 v2 (lw_bz v3) v4) u v1 v2 (lw_bz v3) v4) ?_
  intro d latestPlace positions fragments elementCount draftKind draftValue weights tokenAt fragmentBegin fragmentFirst fragmentLast fragmentEmpty reachedWith follow bearing accepting kindOfType leastOf greatestOf listedCount listedValue attributeUse attributeType typeOfName inUse nameOf parentOf kidCount kids hasValue valueOf hasAttribute attributeValue walked waiting yroot yrowLength yfirst youts ytop ykind ywith ysize yparent yrow yends ylack yshortest youtKind youtWith ywork yworkWith yweight yfollow yfirsts ylasts ybare ymet ynameAt ytokenAt ytodo hD hT hM hE
  unfold wpX_set
  rcases el_cs inUse v1 with hv | ⟨e, he, rfl, hu⟩
  · refine sx_elem0 hv ?_
    refine br_t rfl ?_
    try unfold wpY_set
    refine sy_no1 hv ?_
    refine br_f nb_10 ?_
    exact ⟨rfl, i_mk hD hT hM hE⟩
  · refine sx_elem1 he hu ?_
    refine br_f nb_10 ?_
    rcases nb_ix v2 4 (by omega) with hv2 | ⟨a, ha, rfl⟩
    · refine sx_attr0 hv2 ?_
      refine br_t rfl ?_
      try unfold wpY_set
      refine sy_no0 he hu ?_
      refine br_t rfl ?_
      refine sy_out1 (n := 4) (by omega) hv2 ?_
      refine br_f nb_10 ?_
      exact ⟨rfl, i_mk hD hT hM hE⟩
    · refine sx_attr1 ha ?_
      refine br_f nb_10 ?_
      rw [nb_m4]
      have vi : vp_in (nI (4 * e + a)) 96 := vp_in_nI (by omega) (by omega)
      refine ⟨vi, nm_e ⟨vi, nm_e ?_⟩⟩
      try unfold wpY_set
      refine sy_no0 he hu ?_
      refine br_t rfl ?_
      refine sy_out0 (n := 4) (by omega) ha ?_
      refine br_t rfl ?_
      rw [nb_4m]
      exact ⟨vi, nm_e ⟨vi, nm_e ⟨rfl, i_mk hD hT hM hE⟩⟩⟩
theorem i_vc_child {k : Nat} {u : SX} {v : SY} (I : i_Rel k u v) (hk : k + 5 ≤ 2560) (v1 : Int32) (v2 : Int32) : wpX_child (fun r => wpY_child (fun r' => r' = r ∧ i_Rel (k + 5) u v) v v1 v2) u v1 v2 := by
  refine i_el I (P := fun u v => wpX_child (fun r => wpY_child (fun r' => r' = r ∧ i_Rel (k + 5) u v) v v1 v2) u v1 v2) ?_
  intro d latestPlace positions fragments elementCount draftKind draftValue weights tokenAt fragmentBegin fragmentFirst fragmentLast fragmentEmpty reachedWith follow bearing accepting kindOfType leastOf greatestOf listedCount listedValue attributeUse attributeType typeOfName inUse nameOf parentOf kidCount kids hasValue valueOf hasAttribute attributeValue walked waiting yroot yrowLength yfirst youts ytop ykind ywith ysize yparent yrow yends ylack yshortest youtKind youtWith ywork yworkWith yweight yfollow yfirsts ylasts ybare ymet ynameAt ytokenAt ytodo hD hT hM hE
  unfold wpX_child
  have I' : i_Rel (k + 5) (nI d, latestPlace, positions, fragments, elementCount, draftKind, draftValue, weights, tokenAt, fragmentBegin, fragmentFirst, fragmentLast, fragmentEmpty, reachedWith, follow, bearing, accepting, kindOfType, leastOf, greatestOf, listedCount, listedValue, attributeUse, attributeType, typeOfName, inUse, nameOf, parentOf, kidCount, kids, hasValue, valueOf, hasAttribute, attributeValue, walked, waiting) (latestPlace, yroot, yrowLength, yfirst, youts, ytop, ykind, ywith, ysize, kindOfType, listedCount, attributeUse, attributeType, leastOf, greatestOf, listedValue, typeOfName, inUse, hasValue, hasAttribute, nameOf, yparent, kids, kidCount, yrow, valueOf, attributeValue, yends, ylack, yshortest, youtKind, youtWith, ywork, yworkWith, yweight, yfollow, yfirsts, ylasts, ybare, ymet, ynameAt, ytokenAt, ytodo) := i_mk hD hT hM hE
  rcases el_cs inUse v1 with hv | ⟨e, he, rfl, hu⟩
  · refine sx_elem0 hv ?_
    refine br_t rfl ?_
    try unfold wpY_child
    refine sy_no1 hv ?_
    refine br_f nb_10 ?_
    exact ⟨rfl, I'⟩
  · have ve : vp_in (nI e) 24 := vp_in_nI he (by omega)
    have ec : (nI e).toNatClampNeg = e := nb_cl (by omega)
    obtain ⟨_, _, _, po, c, ch, g, rk, a1, a2, a3, a4, a5⟩ := hE
    have h23 := tr_F_c a5.1 hu
    have em : kidCount (nI e).toNatClampNeg = nI (c e) := by rw [ec]; exact (a3 e he hu).1
    refine sx_elem1 he hu ?_
    refine br_f nb_10 ?_
    rcases nb_ix v2 (c e) (by omega) with hv2 | ⟨i, hi, rfl⟩
    · have y : wpY_child (fun r' => r' = -1 ∧ i_Rel (k + 5) (nI d, latestPlace, positions, fragments, elementCount, draftKind, draftValue, weights, tokenAt, fragmentBegin, fragmentFirst, fragmentLast, fragmentEmpty, reachedWith, follow, bearing, accepting, kindOfType, leastOf, greatestOf, listedCount, listedValue, attributeUse, attributeType, typeOfName, inUse, nameOf, parentOf, kidCount, kids, hasValue, valueOf, hasAttribute, attributeValue, walked, waiting) (latestPlace, yroot, yrowLength, yfirst, youts, ytop, ykind, ywith, ysize, kindOfType, listedCount, attributeUse, attributeType, leastOf, greatestOf, listedValue, typeOfName, inUse, hasValue, hasAttribute, nameOf, yparent, kids, kidCount, yrow, valueOf, attributeValue, yends, ylack, yshortest, youtKind, youtWith, ywork, yworkWith, yweight, yfollow, yfirsts, ylasts, ybare, ymet, ynameAt, ytokenAt, ytodo)) (latestPlace, yroot, yrowLength, yfirst, youts, ytop, ykind, ywith, ysize, kindOfType, listedCount, attributeUse, attributeType, leastOf, greatestOf, listedValue, typeOfName, inUse, hasValue, hasAttribute, nameOf, yparent, kids, kidCount, yrow, valueOf, attributeValue, yends, ylack, yshortest, youtKind, youtWith, ywork, yworkWith, yweight, yfollow, yfirsts, ylasts, ybare, ymet, ynameAt, ytokenAt, ytodo) (nI e) v2 := by
        try unfold wpY_child
        refine sy_no0 he hu ?_
        refine br_t rfl ?_
        refine ⟨ve, ?_⟩
        rw [em]
        try unfold wpY_child
        refine sy_out1 (by omega) hv2 ?_
        refine br_f nb_10 ?_
        exact ⟨rfl, I'⟩
      by_cases h0 : v2 < 0
      · exact br_t h0 y
      · exact br_f h0 ⟨ve, br_t (by rw [em]; exact hv2.resolve_left h0) y⟩
    · refine br_f (nI_pos (by omega)) ⟨ve, br_f (by rw [em]; exact nI_ge hi (by omega)) ?_⟩
      rw [nb_m24]
      refine ⟨vp_in_nI (by omega) (by omega), ?_⟩
      try unfold wpY_child
      refine sy_no0 he hu ?_
      refine br_t rfl ⟨ve, ?_⟩
      rw [em]
      try unfold wpY_child
      refine sy_out0 (by omega) hi ?_
      refine br_t rfl ?_
      rw [nb_24m]
      exact ⟨vp_in_nI (by omega) (by omega), rfl, I'⟩
theorem i_vc0 : wpX_init (fun u => wpY_init (fun v => i_Rel 0 u v)) := by
  refine ⟨7, br_f (by decide) ⟨vp_in_iff.mpr (by decide), nm_e (nm_e (br_f (by decide) ⟨vp_in_iff.mpr (by decide), nm_e (nm_e (br_f (by decide) ⟨vp_in_iff.mpr (by decide), nm_e (nm_e (br_f (by decide) ⟨vp_in_iff.mpr (by decide), nm_e (nm_e (br_f (by decide) ⟨vp_in_iff.mpr (by decide), nm_e (nm_e (br_f (by decide) ⟨vp_in_iff.mpr (by decide), nm_e (nm_e (br_t (by decide) ?_))⟩))⟩))⟩))⟩))⟩))⟩⟩
  refine ⟨7, br_f (by decide) ⟨vp_in_iff.mpr (by decide), nm_r (by rw [nb_m1]) (nm_e (br_f (by decide) ⟨vp_in_iff.mpr (by decide), nm_r (by rw [nb_m1]) (nm_e (br_f (by decide) ⟨vp_in_iff.mpr (by decide), nm_r (by rw [nb_m1]) (nm_e (br_f (by decide) ⟨vp_in_iff.mpr (by decide), nm_r (by rw [nb_m1]) (nm_e (br_f (by decide) ⟨vp_in_iff.mpr (by decide), nm_r (by rw [nb_m1]) (nm_e (br_f (by decide) ⟨vp_in_iff.mpr (by decide), nm_r (by rw [nb_m1]) (nm_e (br_t (by decide) ?_))⟩))⟩))⟩))⟩))⟩))⟩⟩
  refine i_mk (d := 0) ⟨by omega, rfl, fun _ => 0, fun _ => 0, fun i hi => by omega, fun i hi => by omega⟩ ⟨fun t _ => ⟨0, by omega, rfl⟩, fun t _ => ⟨0, by omega, rfl⟩, fun j _ => ⟨⟨0, by omega, rfl⟩, ⟨0, by omega, rfl⟩⟩, fun n hn => Or.inl ?_⟩ (fun t _ h => absurd h (by decide)) ⟨rfl, rfl, fun j _ => nb_0, fun _ => none, fun _ => 0, fun _ _ => 0, fun _ => 0, fun _ => 0, fun _ => Or.inl rfl, fun e _ => ⟨rfl, (by decide : 0 < 6)⟩, fun e _ h => absurd rfl h, fun e k _ h => absurd rfl h, ⟨fun e h => absurd rfl h, fun p k h => absurd rfl h, fun p i j h => absurd rfl h⟩, fun e h => absurd rfl h, fun e h => absurd rfl h, fun h => absurd rfl h⟩
  have hc : n = 0 ∨ n = 1 ∨ n = 2 ∨ n = 3 ∨ n = 4 ∨ n = 5 := by omega
  rcases hc with rfl | rfl | rfl | rfl | rfl | rfl <;> decide +kernel
