/-! ===== simple, listed, attribute, element, rename, value, set, child ===== -/
theorem nb_m4 (t i : Nat) : nI t * 4 + nI i = nI (4 * t + i) := by
  show nI t * nI 4 + nI i = _
  rw [pk_mul, nI_add, Nat.mul_comm]
theorem nb_4m (t i : Nat) : 4 * nI t + nI i = nI (4 * t + i) := by
  show nI 4 * nI t + nI i = _
  rw [pk_mul, nI_add]
theorem nb_m24 (t i : Nat) : nI t * 24 + nI i = nI (24 * t + i) := by
  show nI t * nI 24 + nI i = _
  rw [pk_mul, nI_add, Nat.mul_comm]
theorem nb_24m (t i : Nat) : 24 * nI t + nI i = nI (24 * t + i) := by
  show nI 24 * nI t + nI i = _
  rw [pk_mul, nI_add]
theorem el_cs (iu : Nat → Int32) (x : Int32) : ((x < 0 ∨ nI 24 ≤ x) ∨ ∃ j, j < 24 ∧ x = nI j ∧ iu j = 0) ∨ ∃ j, j < 24 ∧ x = nI j ∧ iu j ≠ 0 := by
  rcases nb_ix x 24 (by omega) with h | ⟨j, hj, e⟩
  · exact Or.inl (Or.inl h)
  · by_cases hu : iu j = 0
    · exact Or.inl (Or.inr ⟨j, hj, e, hu⟩)
    · exact Or.inr ⟨j, hj, e, hu⟩
section
variable {drafted latestPlace positions fragments elementCount : Int32} {draftKind draftValue weights tokenAt fragmentBegin fragmentFirst fragmentLast fragmentEmpty reachedWith follow bearing accepting kindOfType leastOf greatestOf listedCount listedValue attributeUse attributeType typeOfName inUse nameOf parentOf kidCount kids hasValue valueOf hasAttribute attributeValue walked waiting : Nat → Int32} {yplace yroot yrowLength yfirst youts ytop : Int32} {ykind ywith ysize ysort ymany yuse ytypeOf yleast ygreatest ylisted ytypeOfName yused yvalued ygiven yname yparent ychildren ycount yrow yvalue yattributes yends ylack yshortest youtKind youtWith ywork yworkWith yweight yfollow yfirsts ylasts ybare ymet ynameAt ytokenAt ytodo : Nat → Int32}
theorem sx_elem0 {post : Int32 → Prop} {x : Int32} (h : (x < 0 ∨ nI 24 ≤ x) ∨ ∃ j, j < 24 ∧ x = nI j ∧ inUse j = 0) (p : post 0) : wpX_isElement post (drafted, latestPlace, positions, fragments, elementCount, draftKind, draftValue, weights, tokenAt, fragmentBegin, fragmentFirst, fragmentLast, fragmentEmpty, reachedWith, follow, bearing, accepting, kindOfType, leastOf, greatestOf, listedCount, listedValue, attributeUse, attributeType, typeOfName, inUse, nameOf, parentOf, kidCount, kids, hasValue, valueOf, hasAttribute, attributeValue, walked, waiting) x := by
  rcases h with h | ⟨j, hj, rfl, hu⟩
  · by_cases h0 : x < 0
    · exact br_t h0 p
    · exact br_f h0 (br_t (h.resolve_left h0) p)
  · exact br_f (nI_pos (by omega)) (br_f (nI_ge (b := 24) hj (by decide)) ⟨vp_in_nI hj (by omega), br_t (by rw [nb_cl (by omega)]; exact hu) p⟩)
theorem sx_elem1 {post : Int32 → Prop} {j : Nat} (hj : j < 24) (hu : inUse j ≠ 0) (p : post 1) : wpX_isElement post (drafted, latestPlace, positions, fragments, elementCount, draftKind, draftValue, weights, tokenAt, fragmentBegin, fragmentFirst, fragmentLast, fragmentEmpty, reachedWith, follow, bearing, accepting, kindOfType, leastOf, greatestOf, listedCount, listedValue, attributeUse, attributeType, typeOfName, inUse, nameOf, parentOf, kidCount, kids, hasValue, valueOf, hasAttribute, attributeValue, walked, waiting) (nI j) :=
  br_f (nI_pos (by omega)) (br_f (nI_ge (b := 24) hj (by decide)) ⟨vp_in_nI hj (by omega), br_f (by rw [nb_cl (by omega)]; exact hu) p⟩)
theorem sy_no1 {post : Int32 → Prop} {x : Int32} (h : (x < 0 ∨ nI 24 ≤ x) ∨ ∃ j, j < 24 ∧ x = nI j ∧ yused j = 0) (p : post 1) : wpY_no post (yplace, yroot, yrowLength, yfirst, youts, ytop, ykind, ywith, ysize, ysort, ymany, yuse, ytypeOf, yleast, ygreatest, ylisted, ytypeOfName, yused, yvalued, ygiven, yname, yparent, ychildren, ycount, yrow, yvalue, yattributes, yends, ylack, yshortest, youtKind, youtWith, ywork, yworkWith, yweight, yfollow, yfirsts, ylasts, ybare, ymet, ynameAt, ytokenAt, ytodo) x := by
  unfold wpY_no
  rcases h with h | ⟨j, hj, rfl, hu⟩
  · refine sy_out1 (n := 24) (by omega) h ?_
    exact br_f nb_10 p
  · refine sy_out0 (n := 24) (by omega) hj ?_
    refine br_t rfl ?_
    exact ⟨vp_in_nI hj (by omega), br_t (by rw [nb_cl (by omega)]; exact hu) p⟩
theorem sy_no0 {post : Int32 → Prop} {j : Nat} (hj : j < 24) (hu : yused j ≠ 0) (p : post 0) : wpY_no post (yplace, yroot, yrowLength, yfirst, youts, ytop, ykind, ywith, ysize, ysort, ymany, yuse, ytypeOf, yleast, ygreatest, ylisted, ytypeOfName, yused, yvalued, ygiven, yname, yparent, ychildren, ycount, yrow, yvalue, yattributes, yends, ylack, yshortest, youtKind, youtWith, ywork, yworkWith, yweight, yfollow, yfirsts, ylasts, ybare, ymet, ynameAt, ytokenAt, ytodo) (nI j) := by
  unfold wpY_no
  refine sy_out0 (n := 24) (by omega) hj ?_
  exact br_t rfl ⟨vp_in_nI hj (by omega), br_f (by rw [nb_cl (by omega)]; exact hu) p⟩
theorem sx_isL {post : Int32 → Prop} {t c : Nat} {v : Int32} (ht : t < 6) (hc : listedCount t = nI c) (hc4 : c ≤ 4) (h1 : (∃ j, j < c ∧ listedValue (4 * t + j) = v) → post 1) (h0 : (∀ j, j < c → listedValue (4 * t + j) ≠ v) → post 0) : ∀ m i, i + m = c → (∀ j, j < i → listedValue (4 * t + j) ≠ v) → wX_isListed_2 post (nI t) v drafted latestPlace positions fragments elementCount draftKind draftValue weights tokenAt fragmentBegin fragmentFirst fragmentLast fragmentEmpty reachedWith follow bearing accepting kindOfType leastOf greatestOf listedCount listedValue attributeUse attributeType typeOfName inUse nameOf parentOf kidCount kids hasValue valueOf hasAttribute attributeValue walked waiting (m + 1) (nI i) := by
  intro m
  induction m with
  | zero =>
    intro i hi hn
    refine ⟨vp_in_nI ht (by omega), pk_le c i (fun _ => h0 (fun j hj => hn j (by omega))) (fun h => by omega) (by rw [nb_cl (by omega), hc])⟩
  | succ m ih =>
    intro i hi hn
    refine ⟨vp_in_nI ht (by omega), pk_le c i (fun h => by omega) (fun h => ?_) (by rw [nb_cl (by omega), hc])⟩
    rw [nb_m4]
    refine ⟨vp_in_nI (by omega) (by omega), ?_⟩
    rw [nb_cl (by omega)]
    by_cases e : listedValue (4 * t + i) = v
    · exact br_t e (h1 ⟨i, by omega, e⟩)
    · refine br_f e (nm_r (nI_1 i) (ih (i + 1) (by omega) (fun j hj => ?_)))
      by_cases e2 : j = i
      · rw [e2]; exact e
      · exact hn j (by omega)
theorem sx_isListed {post : Int32 → Prop} {t c : Nat} {v : Int32} (ht : t < 6) (hc : listedCount t = nI c) (hc4 : c ≤ 4) (h1 : (∃ j, j < c ∧ listedValue (4 * t + j) = v) → post 1) (h0 : (∀ j, j < c → listedValue (4 * t + j) ≠ v) → post 0) : wpX_isListed post (drafted, latestPlace, positions, fragments, elementCount, draftKind, draftValue, weights, tokenAt, fragmentBegin, fragmentFirst, fragmentLast, fragmentEmpty, reachedWith, follow, bearing, accepting, kindOfType, leastOf, greatestOf, listedCount, listedValue, attributeUse, attributeType, typeOfName, inUse, nameOf, parentOf, kidCount, kids, hasValue, valueOf, hasAttribute, attributeValue, walked, waiting) (nI t) v :=
  ⟨c + 1, sx_isL ht hc hc4 h1 h0 c 0 (by omega) (fun j hj => by omega)⟩
theorem sy_lst {post : Int32 → SY → Prop} {t c : Nat} {v : Int32} (ht : t < 6) (hc : ymany t = nI c) (hc4 : c < 4) (h1 : (∃ j, j < c ∧ ylisted (4 * t + j) = v) → post (-1) (yplace, yroot, yrowLength, yfirst, youts, ytop, ykind, ywith, ysize, ysort, ymany, yuse, ytypeOf, yleast, ygreatest, ylisted, ytypeOfName, yused, yvalued, ygiven, yname, yparent, ychildren, ycount, yrow, yvalue, yattributes, yends, ylack, yshortest, youtKind, youtWith, ywork, yworkWith, yweight, yfollow, yfirsts, ylasts, ybare, ymet, ynameAt, ytokenAt, ytodo)) (h0 : (∀ j, j < c → ylisted (4 * t + j) ≠ v) → post 0 (yplace, yroot, yrowLength, yfirst, youts, ytop, ykind, ywith, ysize, ysort, upd ymany t (nI (c + 1)), yuse, ytypeOf, yleast, ygreatest, upd ylisted (4 * t + c) v, ytypeOfName, yused, yvalued, ygiven, yname, yparent, ychildren, ycount, yrow, yvalue, yattributes, yends, ylack, yshortest, youtKind, youtWith, ywork, yworkWith, yweight, yfollow, yfirsts, ylasts, ybare, ymet, ynameAt, ytokenAt, ytodo)) : ∀ m i, i + m = c → (∀ j, j < i → ylisted (4 * t + j) ≠ v) → wY_listed_33 post (nI t) v yplace yroot yrowLength yfirst youts ytop ykind ywith ysize ysort ymany yuse ytypeOf yleast ygreatest ylisted ytypeOfName yused yvalued ygiven yname yparent ychildren ycount yrow yvalue yattributes yends ylack yshortest youtKind youtWith ywork yworkWith yweight yfollow yfirsts ylasts ybare ymet ynameAt ytokenAt ytodo (m + 1) (nI i) := by
  have e1 : ymany (nI t).toNatClampNeg = nI c := by rw [nb_cl (by omega), hc]
  have e2 : vp_nar .byte ((ymany (nI t).toNatClampNeg + 1).toInt8.toInt32) = nI (c + 1) := by rw [e1, nI_1, nb_v8 (by omega)]
  have e3 : 4 * nI t + ymany (nI t).toNatClampNeg = nI (4 * t + c) := by rw [e1, nb_4m]
  have vt : vp_in (nI t) 6 := vp_in_nI ht (by omega)
  intro m
  induction m with
  | zero =>
    intro i hi hn
    refine ⟨vt, pk_le c i (fun _ => ?_) (fun h => by omega) e1⟩
    refine ⟨vt, vt, nm_r (by rw [e2, nb_cl (by omega)]) ?_⟩
    rw [e3]
    exact ⟨vp_in_nI (by omega) (by omega), nm_r (by rw [nb_cl (by omega)]) (h0 (fun j hj => hn j (by omega)))⟩
  | succ m ih =>
    intro i hi hn
    refine ⟨vt, pk_le c i (fun h => by omega) (fun h => ?_) e1⟩
    rw [nb_4m]
    refine ⟨vp_in_nI (by omega) (by omega), ?_⟩
    rw [nb_cl (by omega)]
    by_cases e : ylisted (4 * t + i) = v
    · exact br_t e (h1 ⟨i, by omega, e⟩)
    · refine br_f e (nm_r (nI_1 i) (ih (i + 1) (by omega) (fun j hj => ?_)))
      by_cases e2 : j = i
      · rw [e2]; exact e
      · exact hn j (by omega)
theorem sx_kind0 {post : Int32 → Prop} {x : Int32} {s : Int32} (h : (x < 0 ∨ nI 6 ≤ x) ∨ ∃ t, t < 6 ∧ x = nI t ∧ kindOfType t ≠ s) (p : post 0) : wpX_isOfKind post (drafted, latestPlace, positions, fragments, elementCount, draftKind, draftValue, weights, tokenAt, fragmentBegin, fragmentFirst, fragmentLast, fragmentEmpty, reachedWith, follow, bearing, accepting, kindOfType, leastOf, greatestOf, listedCount, listedValue, attributeUse, attributeType, typeOfName, inUse, nameOf, parentOf, kidCount, kids, hasValue, valueOf, hasAttribute, attributeValue, walked, waiting) x s := by
  unfold wpX_isOfKind
  rcases h with h | ⟨t, ht, rfl, hs⟩
  · refine sx_type0 h ?_
    exact br_t rfl p
  · refine sx_type1 ht ?_
    refine br_f nb_10 ?_
    exact ⟨vp_in_nI ht (by omega), br_f (by rw [nb_cl (by omega)]; exact hs) p⟩
theorem sx_kind1 {post : Int32 → Prop} {t : Nat} {s : Int32} (ht : t < 6) (hs : kindOfType t = s) (p : post 1) : wpX_isOfKind post (drafted, latestPlace, positions, fragments, elementCount, draftKind, draftValue, weights, tokenAt, fragmentBegin, fragmentFirst, fragmentLast, fragmentEmpty, reachedWith, follow, bearing, accepting, kindOfType, leastOf, greatestOf, listedCount, listedValue, attributeUse, attributeType, typeOfName, inUse, nameOf, parentOf, kidCount, kids, hasValue, valueOf, hasAttribute, attributeValue, walked, waiting) (nI t) s := by
  unfold wpX_isOfKind
  refine sx_type1 ht ?_
  exact br_f nb_10 ⟨vp_in_nI ht (by omega), br_t (by rw [nb_cl (by omega)]; exact hs) p⟩
end
theorem rl_T_so {so mn us ty tn : Nat → Int32} {t s : Nat} (h : rl_T so mn us ty tn) (hs : s < 3) : rl_T (upd so t (nI s)) mn us ty tn := by
  obtain ⟨h1, h2, h3, h4⟩ := h
  refine ⟨fun i hi => ?_, h2, h3, h4⟩
  unfold upd
  by_cases e : i = t
  · rw [if_pos e]; exact ⟨s, hs, rfl⟩
  · rw [if_neg e]; exact h1 i hi
theorem rl_T_mn {so mn us ty tn : Nat → Int32} {t s : Nat} (h : rl_T so mn us ty tn) (hs : s ≤ 4) : rl_T so (upd mn t (nI s)) us ty tn := by
  obtain ⟨h1, h2, h3, h4⟩ := h
  refine ⟨h1, fun i hi => ?_, h3, h4⟩
  unfold upd
  by_cases e : i = t
  · rw [if_pos e]; exact ⟨s, hs, rfl⟩
  · rw [if_neg e]; exact h2 i hi
theorem rl_T_us {so mn us ty tn : Nat → Int32} {j s : Nat} (h : rl_T so mn us ty tn) (hs : s < 3) : rl_T so mn (upd us j (nI s)) ty tn := by
  obtain ⟨h1, h2, h3, h4⟩ := h
  refine ⟨h1, h2, fun i hi => ⟨?_, (h3 i hi).2⟩, h4⟩
  unfold upd
  by_cases e : i = j
  · rw [if_pos e]; exact ⟨s, hs, rfl⟩
  · rw [if_neg e]; exact (h3 i hi).1
theorem rl_T_ty {so mn us ty tn : Nat → Int32} {j s : Nat} (h : rl_T so mn us ty tn) (hs : s < 6) : rl_T so mn us (upd ty j (nI s)) tn := by
  obtain ⟨h1, h2, h3, h4⟩ := h
  refine ⟨h1, h2, fun i hi => ⟨(h3 i hi).1, ?_⟩, h4⟩
  unfold upd
  by_cases e : i = j
  · rw [if_pos e]; exact ⟨s, hs, rfl⟩
  · rw [if_neg e]; exact (h3 i hi).2
theorem rl_T_tn {so mn us ty tn : Nat → Int32} {j : Nat} {x : Int32} (h : rl_T so mn us ty tn) (hx : x = -1 ∨ ∃ t, t < 6 ∧ x = nI t) : rl_T so mn us ty (upd tn j x) := by
  obtain ⟨h1, h2, h3, h4⟩ := h
  refine ⟨h1, h2, h3, fun i hi => ?_⟩
  unfold upd
  by_cases e : i = j
  · rw [if_pos e]; exact hx
  · rw [if_neg e]; exact h4 i hi
theorem rl_M_so {so fo be ac yk yw ys : Nat → Int32} {t : Nat} (h : rl_M so fo be ac yk yw ys) : rl_M (upd so t (nI 1)) fo be ac yk yw ys := by
  refine rl_M_cg h (fun i _ hs => ?_) (fun _ _ => rfl) (fun _ _ => rfl) (fun _ _ => rfl) (fun _ _ => rfl) (fun _ _ => rfl) (fun _ _ => rfl)
  unfold upd at hs
  by_cases e : i = t
  · rw [if_pos e] at hs; exact absurd hs (by decide)
  · rw [if_neg e] at hs; exact hs
theorem i_vc_simple {k : Nat} {u : SX} {v : SY} (I : i_Rel k u v) (hk : k + 5 ≤ 2560) (v1 : Int32) (v2 : Int32) (v3 : Int32) : wpX_simple (fun r u' => wpY_simple (fun r' v' => r' = r ∧ i_Rel (k + 5) u' v') v v1 v2 v3) u v1 v2 v3 := by
  refine i_el I (P := fun u v => wpX_simple (fun r u' => wpY_simple (fun r' v' => r' = r ∧ i_Rel (k + 5) u' v') v v1 v2 v3) u v1 v2 v3) ?_
  intro d latestPlace positions fragments elementCount draftKind draftValue weights tokenAt fragmentBegin fragmentFirst fragmentLast fragmentEmpty reachedWith follow bearing accepting kindOfType leastOf greatestOf listedCount listedValue attributeUse attributeType typeOfName inUse nameOf parentOf kidCount kids hasValue valueOf hasAttribute attributeValue walked waiting yroot yrowLength yfirst youts ytop ykind ywith ysize yparent yrow yends ylack yshortest youtKind youtWith ywork yworkWith yweight yfollow yfirsts ylasts ybare ymet ynameAt ytokenAt ytodo hD hT hM hE
  unfold wpX_simple
  rcases nb_ix v1 6 (by omega) with hv | ⟨t, ht, rfl⟩
  · refine sx_type0 hv ?_
    refine br_t rfl ?_
    try unfold wpY_simple
    refine sy_out1 (n := 6) (by omega) hv ?_
    refine br_f nb_10 ?_
    exact ⟨rfl, i_mk hD hT hM hE⟩
  · have vt : vp_in (nI t) 6 := vp_in_nI ht (by omega)
    have ec : (nI t).toNatClampNeg = t := nb_cl (by omega)
    refine sx_type1 ht ?_
    refine br_f nb_10 ?_
    refine ⟨vt, nm_r (by rw [ec]) ⟨vt, nm_r (by rw [ec]) ⟨vt, nm_r (by rw [ec]) ⟨vt, nm_r (by rw [ec]) ?_⟩⟩⟩⟩
    try unfold wpY_simple
    refine sy_out0 (n := 6) (by omega) ht ?_
    refine br_t rfl ?_
    refine ⟨vt, nm_r (by rw [ec, nb_1]) ⟨vt, nm_r (by rw [ec]) ⟨vt, nm_r (by rw [ec]) ⟨vt, nm_r (by rw [ec, nb_0]) ?_⟩⟩⟩⟩
    exact ⟨rfl, i_mk hD (rl_T_mn (s := 0) (rl_T_so (s := 1) hT (by omega)) (by omega)) (rl_M_so hM) hE⟩
theorem i_vc_listed {k : Nat} {u : SX} {v : SY} (I : i_Rel k u v) (hk : k + 5 ≤ 2560) (v1 : Int32) (v2 : Int32) : wpX_listed (fun r u' => wpY_listed (fun r' v' => r' = r ∧ i_Rel (k + 5) u' v') v v1 v2) u v1 v2 := by
  refine i_el I (P := fun u v => wpX_listed (fun r u' => wpY_listed (fun r' v' => r' = r ∧ i_Rel (k + 5) u' v') v v1 v2) u v1 v2) ?_
  intro d latestPlace positions fragments elementCount draftKind draftValue weights tokenAt fragmentBegin fragmentFirst fragmentLast fragmentEmpty reachedWith follow bearing accepting kindOfType leastOf greatestOf listedCount listedValue attributeUse attributeType typeOfName inUse nameOf parentOf kidCount kids hasValue valueOf hasAttribute attributeValue walked waiting yroot yrowLength yfirst youts ytop ykind ywith ysize yparent yrow yends ylack yshortest youtKind youtWith ywork yworkWith yweight yfollow yfirsts ylasts ybare ymet ynameAt ytokenAt ytodo hD hT hM hE
  unfold wpX_listed
  rcases nb_ix v1 6 (by omega) with hv | ⟨t, ht, rfl⟩
  · refine sx_kind0 (Or.inl hv) ?_
    refine br_t rfl ?_
    try unfold wpY_listed
    refine sy_out1 (n := 6) (by omega) hv ?_
    refine br_f nb_10 ?_
    exact ⟨rfl, i_mk hD hT hM hE⟩
  · have vt : vp_in (nI t) 6 := vp_in_nI ht (by omega)
    have ec : (nI t).toNatClampNeg = t := nb_cl (by omega)
    by_cases hs : kindOfType t = 1
    · obtain ⟨c, hc, ec4⟩ := hT.2.1 t ht
      have em : listedCount (nI t).toNatClampNeg = nI c := by rw [ec, ec4]
      refine sx_kind1 ht hs ?_
      refine br_f nb_10 ?_
      refine ⟨vt, pk_le 4 c (fun h => ?_) (fun h => ?_) rfl em⟩
      · try unfold wpY_listed
        refine sy_out0 (n := 6) (by omega) ht ?_
        refine br_t rfl ?_
        exact ⟨vt, br_t (by rw [ec]; exact hs) ⟨vt, pk_eq c 4 (fun _ => ⟨rfl, i_mk hD hT hM hE⟩) (fun h2 => by omega) em⟩⟩
      · have Y0 : ∀ {post : Int32 → SY → Prop}, ((∃ j, j < c ∧ listedValue (4 * t + j) = v2) → post (-1) (latestPlace, yroot, yrowLength, yfirst, youts, ytop, ykind, ywith, ysize, kindOfType, listedCount, attributeUse, attributeType, leastOf, greatestOf, listedValue, typeOfName, inUse, hasValue, hasAttribute, nameOf, yparent, kids, kidCount, yrow, valueOf, attributeValue, yends, ylack, yshortest, youtKind, youtWith, ywork, yworkWith, yweight, yfollow, yfirsts, ylasts, ybare, ymet, ynameAt, ytokenAt, ytodo)) → ((∀ j, j < c → listedValue (4 * t + j) ≠ v2) → post 0 (latestPlace, yroot, yrowLength, yfirst, youts, ytop, ykind, ywith, ysize, kindOfType, upd listedCount t (nI (c + 1)), attributeUse, attributeType, leastOf, greatestOf, upd listedValue (4 * t + c) v2, typeOfName, inUse, hasValue, hasAttribute, nameOf, yparent, kids, kidCount, yrow, valueOf, attributeValue, yends, ylack, yshortest, youtKind, youtWith, ywork, yworkWith, yweight, yfollow, yfirsts, ylasts, ybare, ymet, ynameAt, ytokenAt, ytodo)) → wpY_listed post (latestPlace, yroot, yrowLength, yfirst, youts, ytop, ykind, ywith, ysize, kindOfType, listedCount, attributeUse, attributeType, leastOf, greatestOf, listedValue, typeOfName, inUse, hasValue, hasAttribute, nameOf, yparent, kids, kidCount, yrow, valueOf, attributeValue, yends, ylack, yshortest, youtKind, youtWith, ywork, yworkWith, yweight, yfollow, yfirsts, ylasts, ybare, ymet, ynameAt, ytokenAt, ytodo) (nI t) v2 := by
          intro post h1 h0
          try unfold wpY_listed
          refine sy_out0 (n := 6) (by omega) ht ?_
          refine br_t rfl ?_
          exact ⟨vt, br_t (by rw [ec]; exact hs) ⟨vt, pk_eq c 4 (fun h2 => by omega) (fun _ => ⟨c + 1, sy_lst ht ec4 h h1 h0 c 0 (by omega) (fun j hj => by omega)⟩) em⟩⟩
        refine sx_isListed ht ec4 hc (fun h1 => ?_) (fun h0 => ?_)
        · exact br_f nb_10 (Y0 (fun _ => ⟨rfl, i_mk hD hT hM hE⟩) (fun h2 => by obtain ⟨j, hj, e⟩ := h1; exact absurd e (h2 j hj)))
        · have e4 : nI t * 4 + listedCount (nI t).toNatClampNeg = nI (4 * t + c) := by rw [em, nb_m4]
          refine br_t rfl ⟨vt, ?_⟩
          rw [e4]
          refine ⟨vp_in_nI (by omega) (by omega), nm_r (by rw [nb_cl (by omega)]) ⟨vt, vt, nm_r (by rw [em, nI_1, ec]) ?_⟩⟩
          exact Y0 (fun h2 => by obtain ⟨j, hj, e⟩ := h2; exact absurd e (h0 j hj)) (fun _ => ⟨rfl, i_mk hD (rl_T_mn hT (by omega)) hM hE⟩)
    · refine sx_kind0 (Or.inr ⟨t, ht, rfl, hs⟩) ?_
      refine br_t rfl ?_
      try unfold wpY_listed
      refine sy_out0 (n := 6) (by omega) ht ?_
      refine br_t rfl ?_
      exact ⟨vt, br_f (by rw [ec]; exact hs) ⟨rfl, i_mk hD hT hM hE⟩⟩
theorem i_vc_attribute {k : Nat} {u : SX} {v : SY} (I : i_Rel k u v) (hk : k + 5 ≤ 2560) (v1 : Int32) (v2 : Int32) (v3 : Int32) (v4 : Int32) : wpX_attribute (fun r u' => wpY_attribute (fun r' v' => r' = r ∧ i_Rel (k + 5) u' v') v v1 v2 v3 v4) u v1 v2 v3 v4 := by
  refine i_el I (P := fun u v => wpX_attribute (fun r u' => wpY_attribute (fun r' v' => r' = r ∧ i_Rel (k + 5) u' v') v v1 v2 v3 v4) u v1 v2 v3 v4) ?_
  intro d latestPlace positions fragments elementCount draftKind draftValue weights tokenAt fragmentBegin fragmentFirst fragmentLast fragmentEmpty reachedWith follow bearing accepting kindOfType leastOf greatestOf listedCount listedValue attributeUse attributeType typeOfName inUse nameOf parentOf kidCount kids hasValue valueOf hasAttribute attributeValue walked waiting yroot yrowLength yfirst youts ytop ykind ywith ysize yparent yrow yends ylack yshortest youtKind youtWith ywork yworkWith yweight yfollow yfirsts ylasts ybare ymet ynameAt ytokenAt ytodo hD hT hM hE
  unfold wpX_attribute
  rcases nb_ix v1 6 (by omega) with hv | ⟨t, ht, rfl⟩
  · refine sx_kind0 (Or.inl hv) ?_
    refine br_t rfl ?_
    try unfold wpY_attribute
    refine sy_out1 (n := 6) (by omega) hv ?_
    refine br_f nb_10 ?_
    exact ⟨rfl, i_mk hD hT hM hE⟩
  · have vt : vp_in (nI t) 6 := vp_in_nI ht (by omega)
    have ec : (nI t).toNatClampNeg = t := nb_cl (by omega)
    by_cases hs : kindOfType t = 2
    · refine sx_kind1 ht hs ?_
      refine br_f nb_10 ?_
      have Y0 : ∀ {post : Int32 → SY → Prop}, wpY_out (fun r_5 => (r_5 = 0 → wpY_out (fun r_7 => (r_7 = 0 → wpY_out (fun r_9 => (r_9 = 0 → vp_in (4 * nI t + v2) 24 ∧ ∀ a, a = upd attributeUse (4 * nI t + v2).toNatClampNeg (vp_nar .byte v3.toInt8.toInt32) → (vp_in (4 * nI t + v2) 24 ∧ ∀ b, b = upd attributeType (4 * nI t + v2).toNatClampNeg (vp_nar .byte v4.toInt8.toInt32) → post 0 (latestPlace, yroot, yrowLength, yfirst, youts, ytop, ykind, ywith, ysize, kindOfType, listedCount, a, b, leastOf, greatestOf, listedValue, typeOfName, inUse, hasValue, hasAttribute, nameOf, yparent, kids, kidCount, yrow, valueOf, attributeValue, yends, ylack, yshortest, youtKind, youtWith, ywork, yworkWith, yweight, yfollow, yfirsts, ylasts, ybare, ymet, ynameAt, ytokenAt, ytodo))) ∧ (¬ r_9 = 0 → post (-1) (latestPlace, yroot, yrowLength, yfirst, youts, ytop, ykind, ywith, ysize, kindOfType, listedCount, attributeUse, attributeType, leastOf, greatestOf, listedValue, typeOfName, inUse, hasValue, hasAttribute, nameOf, yparent, kids, kidCount, yrow, valueOf, attributeValue, yends, ylack, yshortest, youtKind, youtWith, ywork, yworkWith, yweight, yfollow, yfirsts, ylasts, ybare, ymet, ynameAt, ytokenAt, ytodo))) v4 6) ∧ (¬ r_7 = 0 → post (-1) (latestPlace, yroot, yrowLength, yfirst, youts, ytop, ykind, ywith, ysize, kindOfType, listedCount, attributeUse, attributeType, leastOf, greatestOf, listedValue, typeOfName, inUse, hasValue, hasAttribute, nameOf, yparent, kids, kidCount, yrow, valueOf, attributeValue, yends, ylack, yshortest, youtKind, youtWith, ywork, yworkWith, yweight, yfollow, yfirsts, ylasts, ybare, ymet, ynameAt, ytokenAt, ytodo))) v3 3) ∧ (¬ r_5 = 0 → post (-1) (latestPlace, yroot, yrowLength, yfirst, youts, ytop, ykind, ywith, ysize, kindOfType, listedCount, attributeUse, attributeType, leastOf, greatestOf, listedValue, typeOfName, inUse, hasValue, hasAttribute, nameOf, yparent, kids, kidCount, yrow, valueOf, attributeValue, yends, ylack, yshortest, youtKind, youtWith, ywork, yworkWith, yweight, yfollow, yfirsts, ylasts, ybare, ymet, ynameAt, ytokenAt, ytodo))) v2 4 → wpY_attribute post (latestPlace, yroot, yrowLength, yfirst, youts, ytop, ykind, ywith, ysize, kindOfType, listedCount, attributeUse, attributeType, leastOf, greatestOf, listedValue, typeOfName, inUse, hasValue, hasAttribute, nameOf, yparent, kids, kidCount, yrow, valueOf, attributeValue, yends, ylack, yshortest, youtKind, youtWith, ywork, yworkWith, yweight, yfollow, yfirsts, ylasts, ybare, ymet, ynameAt, ytokenAt, ytodo) (nI t) v2 v3 v4 := by
        intro post h
        try unfold wpY_attribute
        refine sy_out0 (n := 6) (by omega) ht ?_
        refine br_t rfl ?_
        exact ⟨vt, br_t (by rw [ec]; exact hs) h⟩
      rcases nb_ix v2 4 (by omega) with hv2 | ⟨a, ha, rfl⟩
      · refine sx_attr0 hv2 ?_
        refine br_t rfl ?_
        refine Y0 ?_
        refine sy_out1 (n := 4) (by omega) hv2 ?_
        refine br_f nb_10 ?_
        exact ⟨rfl, i_mk hD hT hM hE⟩
      · refine sx_attr1 ha ?_
        refine br_f nb_10 ?_
        rcases nb_ix v3 3 (by omega) with hv3 | ⟨c, hc, rfl⟩
        · have y3 : wpY_attribute (fun r' v' => r' = -1 ∧ i_Rel (k + 5) (nI d, latestPlace, positions, fragments, elementCount, draftKind, draftValue, weights, tokenAt, fragmentBegin, fragmentFirst, fragmentLast, fragmentEmpty, reachedWith, follow, bearing, accepting, kindOfType, leastOf, greatestOf, listedCount, listedValue, attributeUse, attributeType, typeOfName, inUse, nameOf, parentOf, kidCount, kids, hasValue, valueOf, hasAttribute, attributeValue, walked, waiting) v') (latestPlace, yroot, yrowLength, yfirst, youts, ytop, ykind, ywith, ysize, kindOfType, listedCount, attributeUse, attributeType, leastOf, greatestOf, listedValue, typeOfName, inUse, hasValue, hasAttribute, nameOf, yparent, kids, kidCount, yrow, valueOf, attributeValue, yends, ylack, yshortest, youtKind, youtWith, ywork, yworkWith, yweight, yfollow, yfirsts, ylasts, ybare, ymet, ynameAt, ytokenAt, ytodo) (nI t) (nI a) v3 v4 := by
            refine Y0 ?_
            refine sy_out0 (n := 4) (by omega) ha ?_
            refine br_t rfl ?_
            refine sy_out1 (n := 3) (by omega) hv3 ?_
            refine br_f nb_10 ?_
            exact ⟨rfl, i_mk hD hT hM hE⟩
          by_cases h0 : v3 < 0
          · exact br_t h0 y3
          · refine br_f h0 (br_t ?_ y3)
            have h3 := hv3.resolve_left h0
            rw [Int32.lt_iff_toInt_lt]
            rw [Int32.le_iff_toInt_le] at h3
            have a1 : (2 : Int32).toInt = 2 := by decide
            have a2 : (nI 3).toInt = 3 := by decide
            omega
        · refine br_f (nI_pos (by omega)) (br_f (nI_nlt (b := c) (a := 2) (by omega) (by omega)) ?_)
          rcases nb_ix v4 6 (by omega) with hv4 | ⟨s, hs', rfl⟩
          · refine sx_type0 hv4 ?_
            refine br_t rfl ?_
            refine Y0 ?_
            refine sy_out0 (n := 4) (by omega) ha ?_
            refine br_t rfl ?_
            refine sy_out0 (n := 3) (by omega) hc ?_
            refine br_t rfl ?_
            refine sy_out1 (n := 6) (by omega) hv4 ?_
            refine br_f nb_10 ?_
            exact ⟨rfl, i_mk hD hT hM hE⟩
          · refine sx_type1 hs' ?_
            refine br_f nb_10 ?_
            rw [nb_m4]
            have vi : vp_in (nI (4 * t + a)) 24 := vp_in_nI (by omega) (by omega)
            have ei : (nI (4 * t + a)).toNatClampNeg = 4 * t + a := nb_cl (by omega)
            refine ⟨vi, nm_r (by rw [ei]) ⟨vi, nm_r (by rw [ei]) ?_⟩⟩
            refine Y0 ?_
            refine sy_out0 (n := 4) (by omega) ha ?_
            refine br_t rfl ?_
            refine sy_out0 (n := 3) (by omega) hc ?_
            refine br_t rfl ?_
            refine sy_out0 (n := 6) (by omega) hs' ?_
            refine br_t rfl ?_
            rw [nb_4m]
            exact ⟨vi, nm_r (by rw [ei, nb_v8 (by omega)]) ⟨vi, nm_r (by rw [ei, nb_v8 (by omega)]) ⟨rfl, i_mk hD (rl_T_ty (rl_T_us hT hc) hs') hM hE⟩⟩⟩
    · refine sx_kind0 (Or.inr ⟨t, ht, rfl, hs⟩) ?_
      refine br_t rfl ?_
      try unfold wpY_attribute
      refine sy_out0 (n := 6) (by omega) ht ?_
      refine br_t rfl ?_
      exact ⟨vt, br_f (by rw [ec]; exact hs) ⟨rfl, i_mk hD hT hM hE⟩⟩
