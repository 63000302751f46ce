/-! ===== attach and put, detach and take, a new element ===== -/
theorem nb_s1 {n : Nat} (h : 1 ≤ n) : nI n - 1 = nI (n - 1) := pk_sub (b := 1) h
theorem nb_a1 (n : Nat) : nI (n + 1) + (-1) = nI n := pk_m1 n
theorem kp_sh_b {kc : Nat → Int32} {p c i : Nat} (h : ∀ j, j < 600 → vp_nar .byte (kc j) = kc j) : ∀ j, j < 600 → vp_nar .byte (kp_sh kc p c i j) = kp_sh kc p c i j := by
  intro j hj
  unfold kp_sh
  split
  · exact h _ (by omega)
  · exact h _ hj
section
variable {drafted latestPlace positions fragments elementCount : Int32} {draftKind draftValue weights tokenAt fragmentBegin fragmentFirst fragmentLast fragmentEmpty reachedWith follow bearing accepting kindOfType leastOf greatestOf listedCount listedValue attributeUse attributeType typeOfName inUse nameOf parentOf kidCount kids hasValue valueOf hasAttribute attributeValue walked waiting : Nat → Int32} {yplace yroot yrowLength yfirst youts ytop : Int32} {ykind ywith ysize ysort ymany yuse ytypeOf yleast ygreatest ylisted ytypeOfName yused yvalued ygiven yname yparent ychildren ycount yrow yvalue yattributes yends ylack yshortest youtKind youtWith ywork yworkWith yweight yfollow yfirsts ylasts ybare ymet ynameAt ytokenAt ytodo : Nat → Int32}
theorem sx_att8 {post : SX → Prop} {e p k c : Nat} (hp : p < 24) (he : e < 24) (hc : c ≤ 23) (hct : kidCount p = nI c) (h : post (drafted, latestPlace, positions, fragments, elementCount, draftKind, draftValue, weights, tokenAt, fragmentBegin, fragmentFirst, fragmentLast, fragmentEmpty, reachedWith, follow, bearing, accepting, kindOfType, leastOf, greatestOf, listedCount, listedValue, attributeUse, attributeType, typeOfName, inUse, nameOf, upd parentOf e (nI p), upd kidCount p (nI (c + 1)), kp_ins kids p c k (nI e), hasValue, valueOf, hasAttribute, attributeValue, walked, waiting)) : ∀ m i, i = k + m → i ≤ c → wX_attach_8 post (nI e) (nI p) (nI k) drafted latestPlace positions fragments elementCount (m + 1) (nI i) draftKind draftValue weights tokenAt fragmentBegin fragmentFirst fragmentLast fragmentEmpty reachedWith follow bearing accepting kindOfType leastOf greatestOf listedCount listedValue attributeUse attributeType typeOfName inUse nameOf parentOf kidCount (kp_sh kids p c i) hasValue valueOf hasAttribute attributeValue walked waiting := by
  have ep : (nI p).toNatClampNeg = p := nb_cl (by omega)
  have ee : (nI e).toNatClampNeg = e := nb_cl (by omega)
  have vp : vp_in (nI p) 24 := vp_in_nI hp (by omega)
  have ve : vp_in (nI e) 24 := vp_in_nI he (by omega)
  intro m
  induction m with
  | zero =>
    intro i hi hic
    obtain rfl : i = k := by omega
    refine br_t (nI_le (Nat.le_refl i) (by omega)) ?_
    rw [nb_m24]
    exact ⟨vp_in_nI (by omega) (by omega), nm_r (e' := kp_ins kids p c i (nI e)) (by rw [nb_cl (by omega)]; rfl) ⟨vp, vp, nm_r (by rw [ep, hct, nI_1]) ⟨ve, nm_r (by rw [ee]) h⟩⟩⟩
  | succ m ih =>
    intro i hi hic
    obtain ⟨j, rfl⟩ : ∃ j, i = j + 1 := ⟨k + m, by omega⟩
    refine br_f (nI_ge (by omega) (by omega)) ?_
    rw [nb_m24, nb_s1 (by omega)]
    refine ⟨vp_in_nI (by omega) (by omega), vp_in_nI (by omega) (by omega), nm_r (e' := kp_sh kids p c j) ?_ (nm_r (nb_a1 j) (ih j (by omega) (by omega)))⟩
    rw [nb_cl (by omega), nb_cl (by omega), show 24 * p + (j + 1) - 1 = 24 * p + j by omega]
    exact kp_sh_s hic
theorem sx_attach {post : SX → Prop} {e p k c : Nat} (hp : p < 24) (he : e < 24) (hc : c ≤ 23) (hk : k ≤ c) (hct : kidCount p = nI c) (h : post (drafted, latestPlace, positions, fragments, elementCount, draftKind, draftValue, weights, tokenAt, fragmentBegin, fragmentFirst, fragmentLast, fragmentEmpty, reachedWith, follow, bearing, accepting, kindOfType, leastOf, greatestOf, listedCount, listedValue, attributeUse, attributeType, typeOfName, inUse, nameOf, upd parentOf e (nI p), upd kidCount p (nI (c + 1)), kp_ins kids p c k (nI e), hasValue, valueOf, hasAttribute, attributeValue, walked, waiting)) : wpX_attach post (drafted, latestPlace, positions, fragments, elementCount, draftKind, draftValue, weights, tokenAt, fragmentBegin, fragmentFirst, fragmentLast, fragmentEmpty, reachedWith, follow, bearing, accepting, kindOfType, leastOf, greatestOf, listedCount, listedValue, attributeUse, attributeType, typeOfName, inUse, nameOf, parentOf, kidCount, kids, hasValue, valueOf, hasAttribute, attributeValue, walked, waiting) (nI e) (nI p) (nI k) := by
  refine ⟨vp_in_nI hp (by omega), nm_r (by rw [nb_cl (by omega), hct]) ⟨c - k + 1, ?_⟩⟩
  have := sx_att8 (k := k) hp he hc hct h (c - k) c (by omega) (Nat.le_refl c)
  rw [kp_sh_c] at this
  exact this
theorem sy_put8 {post : SY → Prop} {e p k c : Nat} (hp : p < 24) (he : e < 24) (hc : c ≤ 23) (hct : ycount p = nI c) (hb : ∀ j, j < 600 → vp_nar .byte (ychildren j) = ychildren j) (h : post (yplace, yroot, yrowLength, yfirst, youts, ytop, ykind, ywith, ysize, ysort, ymany, yuse, ytypeOf, yleast, ygreatest, ylisted, ytypeOfName, yused, yvalued, ygiven, yname, upd yparent e (nI p), kp_ins ychildren p c k (nI e), upd ycount p (nI (c + 1)), yrow, yvalue, yattributes, yends, ylack, yshortest, youtKind, youtWith, ywork, yworkWith, yweight, yfollow, yfirsts, ylasts, ybare, ymet, ynameAt, ytokenAt, ytodo)) : ∀ m i, i = k + m → i ≤ c → wY_put_8 post (nI e) (nI p) (nI k) yplace yroot yrowLength yfirst youts ytop (m + 1) (nI i) ykind ywith ysize ysort ymany yuse ytypeOf yleast ygreatest ylisted ytypeOfName yused yvalued ygiven yname yparent (kp_sh ychildren p c i) ycount yrow yvalue yattributes yends ylack yshortest youtKind youtWith ywork yworkWith yweight yfollow yfirsts ylasts ybare ymet ynameAt ytokenAt ytodo := by
  have ep : (nI p).toNatClampNeg = p := nb_cl (by omega)
  have ee : (nI e).toNatClampNeg = e := nb_cl (by omega)
  have vp : vp_in (nI p) 24 := vp_in_nI hp (by omega)
  have ve : vp_in (nI e) 24 := vp_in_nI he (by omega)
  intro m
  induction m with
  | zero =>
    intro i hi hic
    obtain rfl : i = k := by omega
    refine br_t (nI_le (Nat.le_refl i) (by omega)) ?_
    rw [nb_24m]
    exact ⟨vp_in_nI (by omega) (by omega), nm_r (e' := kp_ins ychildren p c i (nI e)) (by rw [nb_cl (by omega), nb_v8 (by omega)]; rfl) ⟨vp, vp, nm_r (by rw [ep, hct, nI_1, nb_v8 (by omega)]) ⟨ve, nm_r (by rw [ee, nb_v8 (by omega)]) h⟩⟩⟩
  | succ m ih =>
    intro i hi hic
    obtain ⟨j, rfl⟩ : ∃ j, i = j + 1 := ⟨k + m, by omega⟩
    refine br_f (nI_ge (by omega) (by omega)) ?_
    rw [nb_24m, nb_s1 (by omega)]
    refine ⟨vp_in_nI (by omega) (by omega), vp_in_nI (by omega) (by omega), nm_r (e' := kp_sh ychildren p c j) ?_ (nm_r (nb_a1 j) (ih j (by omega) (by omega)))⟩
    rw [nb_cl (by omega), nb_cl (by omega), show 24 * p + (j + 1) - 1 = 24 * p + j by omega, kp_sh_b hb _ (by omega)]
    exact kp_sh_s hic
theorem sy_put {post : SY → Prop} {e p k c : Nat} (hp : p < 24) (he : e < 24) (hc : c ≤ 23) (hk : k ≤ c) (hct : ycount p = nI c) (hb : ∀ j, j < 600 → vp_nar .byte (ychildren j) = ychildren j) (h : post (yplace, yroot, yrowLength, yfirst, youts, ytop, ykind, ywith, ysize, ysort, ymany, yuse, ytypeOf, yleast, ygreatest, ylisted, ytypeOfName, yused, yvalued, ygiven, yname, upd yparent e (nI p), kp_ins ychildren p c k (nI e), upd ycount p (nI (c + 1)), yrow, yvalue, yattributes, yends, ylack, yshortest, youtKind, youtWith, ywork, yworkWith, yweight, yfollow, yfirsts, ylasts, ybare, ymet, ynameAt, ytokenAt, ytodo)) : wpY_put post (yplace, yroot, yrowLength, yfirst, youts, ytop, ykind, ywith, ysize, ysort, ymany, yuse, ytypeOf, yleast, ygreatest, ylisted, ytypeOfName, yused, yvalued, ygiven, yname, yparent, ychildren, ycount, yrow, yvalue, yattributes, yends, ylack, yshortest, youtKind, youtWith, ywork, yworkWith, yweight, yfollow, yfirsts, ylasts, ybare, ymet, ynameAt, ytokenAt, ytodo) (nI e) (nI p) (nI k) := by
  refine ⟨vp_in_nI hp (by omega), nm_r (by rw [nb_cl (by omega), hct]) ⟨c - k + 1, ?_⟩⟩
  have := sy_put8 (k := k) hp he hc hct hb h (c - k) c (by omega) (Nat.le_refl c)
  rw [kp_sh_c] at this
  exact this
theorem sx_det18 {post : SX → Prop} {e q s c : Nat} (hq : q < 24) (he : e < 24) (hc : c ≤ 23) (hs : s < c) (hct : kidCount q = nI c) (hk : ∀ i, i < c → (kids (24 * q + i) = nI e ↔ i = s)) (h : post (drafted, latestPlace, positions, fragments, elementCount, draftKind, draftValue, weights, tokenAt, fragmentBegin, fragmentFirst, fragmentLast, fragmentEmpty, reachedWith, follow, bearing, accepting, kindOfType, leastOf, greatestOf, listedCount, listedValue, attributeUse, attributeType, typeOfName, inUse, nameOf, upd parentOf e (-1), upd kidCount q (nI (c - 1)), kp_del kids q s c, hasValue, valueOf, hasAttribute, attributeValue, walked, waiting)) : ∀ m i, i + m = c → wX_detach_18 post (nI e) (nI q) drafted latestPlace positions fragments elementCount (m + 1) (nI (if i ≤ s then i else i - 1)) (nI i) draftKind draftValue weights tokenAt fragmentBegin fragmentFirst fragmentLast fragmentEmpty reachedWith follow bearing accepting kindOfType leastOf greatestOf listedCount listedValue attributeUse attributeType typeOfName inUse nameOf parentOf kidCount (kp_del kids q s i) hasValue valueOf hasAttribute attributeValue walked waiting := by
  have ep : (nI q).toNatClampNeg = q := nb_cl (by omega)
  have ee : (nI e).toNatClampNeg = e := nb_cl (by omega)
  have vp : vp_in (nI q) 24 := vp_in_nI hq (by omega)
  have ve : vp_in (nI e) 24 := vp_in_nI he (by omega)
  have em : kidCount (nI q).toNatClampNeg = nI c := by rw [ep, hct]
  intro m
  induction m with
  | zero =>
    intro i hi
    obtain rfl : i = c := by omega
    rw [if_neg (by omega)]
    exact ⟨vp, br_t (by rw [em]; exact nI_le (Nat.le_refl i) (by omega)) ⟨vp, nm_r (by rw [ep]) ⟨ve, nm_r (by rw [ee]) h⟩⟩⟩
  | succ m ih =>
    intro i hi
    refine ⟨vp, br_f (by rw [em]; exact nI_ge (by omega) (by omega)) ?_⟩
    have ih' := ih (i + 1) (by omega)
    have e0 : kp_del kids q s i (24 * q + i) = kids (24 * q + i) := by unfold kp_del; rw [if_neg (by omega)]
    rw [nb_m24 q i]
    refine ⟨vp_in_nI (by omega) (by omega), nm_r (by rw [nb_cl (by omega), e0]) ?_⟩
    by_cases e1 : i = s
    · refine br_t ((hk i (by omega)).mpr e1) (nm_r (nI_1 i) ?_)
      rw [if_neg (by omega), kp_del_0 (by omega)] at ih'
      rw [if_pos (by omega), kp_del_0 (by omega)]
      exact ih'
    · refine br_f (fun e => e1 ((hk i (by omega)).mp e)) ?_
      by_cases hlt : i < s
      · rw [if_pos (by omega), kp_del_0 (by omega)] at ih'
        rw [if_pos (by omega), kp_del_0 (by omega), nb_m24]
        exact ⟨vp_in_nI (by omega) (by omega), nm_r (by rw [nb_cl (by omega), kp_id]) (nm_r (nI_1 i) (nm_r (nI_1 i) ih'))⟩
      · rw [if_neg (by omega)] at ih'
        rw [if_neg (by omega), nb_m24]
        refine ⟨vp_in_nI (by omega) (by omega), nm_r (e' := kp_del kids q s (i + 1)) (by rw [nb_cl (by omega)]; exact kp_del_s (by omega)) (nm_r (e' := nI (i + 1 - 1)) (by rw [nI_1]; congr 1; omega) (nm_r (nI_1 i) ih'))⟩
theorem sx_detach {post : SX → Prop} {e q s c : Nat} (hq : q < 24) (he : e < 24) (hc : c ≤ 23) (hs : s < c) (hpe : parentOf e = nI q) (hct : kidCount q = nI c) (hk : ∀ i, i < c → (kids (24 * q + i) = nI e ↔ i = s)) (h : post (drafted, latestPlace, positions, fragments, elementCount, draftKind, draftValue, weights, tokenAt, fragmentBegin, fragmentFirst, fragmentLast, fragmentEmpty, reachedWith, follow, bearing, accepting, kindOfType, leastOf, greatestOf, listedCount, listedValue, attributeUse, attributeType, typeOfName, inUse, nameOf, upd parentOf e (-1), upd kidCount q (nI (c - 1)), kp_del kids q s c, hasValue, valueOf, hasAttribute, attributeValue, walked, waiting)) : wpX_detach post (drafted, latestPlace, positions, fragments, elementCount, draftKind, draftValue, weights, tokenAt, fragmentBegin, fragmentFirst, fragmentLast, fragmentEmpty, reachedWith, follow, bearing, accepting, kindOfType, leastOf, greatestOf, listedCount, listedValue, attributeUse, attributeType, typeOfName, inUse, nameOf, parentOf, kidCount, kids, hasValue, valueOf, hasAttribute, attributeValue, walked, waiting) (nI e) := by
  refine ⟨vp_in_nI he (by omega), nm_r (e' := nI q) (by rw [nb_cl (by omega), hpe]) (br_f (nb_nm (by omega)) ⟨c + 1, ?_⟩)⟩
  have := sx_det18 hq he hc hs hct hk h c 0 (by omega)
  rw [if_pos (by omega), kp_del_0 (by omega)] at this
  exact this
theorem sx_detach0 {post : SX → Prop} {e : Nat} (he : e < 24) (hpe : parentOf e = -1) (h : post (drafted, latestPlace, positions, fragments, elementCount, draftKind, draftValue, weights, tokenAt, fragmentBegin, fragmentFirst, fragmentLast, fragmentEmpty, reachedWith, follow, bearing, accepting, kindOfType, leastOf, greatestOf, listedCount, listedValue, attributeUse, attributeType, typeOfName, inUse, nameOf, parentOf, kidCount, kids, hasValue, valueOf, hasAttribute, attributeValue, walked, waiting)) : wpX_detach post (drafted, latestPlace, positions, fragments, elementCount, draftKind, draftValue, weights, tokenAt, fragmentBegin, fragmentFirst, fragmentLast, fragmentEmpty, reachedWith, follow, bearing, accepting, kindOfType, leastOf, greatestOf, listedCount, listedValue, attributeUse, attributeType, typeOfName, inUse, nameOf, parentOf, kidCount, kids, hasValue, valueOf, hasAttribute, attributeValue, walked, waiting) (nI e) :=
  ⟨vp_in_nI he (by omega), nm_r (e' := -1) (by rw [nb_cl (by omega), hpe]) (br_t rfl h)⟩
theorem sy_take46 {post : SY → Prop} {q s c : Nat} (hq : q < 24) (hc : c ≤ 23) (hct : ycount q = nI (c - 1)) (hb : ∀ j, j < 600 → vp_nar .byte (ychildren j) = ychildren j) (h : post (yplace, yroot, yrowLength, yfirst, youts, ytop, ykind, ywith, ysize, ysort, ymany, yuse, ytypeOf, yleast, ygreatest, ylisted, ytypeOfName, yused, yvalued, ygiven, yname, yparent, kp_del ychildren q s c, ycount, yrow, yvalue, yattributes, yends, ylack, yshortest, youtKind, youtWith, ywork, yworkWith, yweight, yfollow, yfirsts, ylasts, ybare, ymet, ynameAt, ytokenAt, ytodo)) (hs : s < c) : ∀ m k, k + m = c - 1 → s ≤ k → wY_take_46 post (nI q) yplace yroot yrowLength yfirst youts ytop (m + 1) (nI k) ykind ywith ysize ysort ymany yuse ytypeOf yleast ygreatest ylisted ytypeOfName yused yvalued ygiven yname yparent (kp_del ychildren q s (k + 1)) ycount yrow yvalue yattributes yends ylack yshortest youtKind youtWith ywork yworkWith yweight yfollow yfirsts ylasts ybare ymet ynameAt ytokenAt ytodo := by
  have em : ycount (nI q).toNatClampNeg = nI (c - 1) := by rw [nb_cl (by omega), hct]
  have vp : vp_in (nI q) 24 := vp_in_nI hq (by omega)
  intro m
  induction m with
  | zero =>
    intro k hk hsk
    refine ⟨vp, br_t (by rw [em]; exact nI_le (by omega) (by omega)) ?_⟩
    rw [show k + 1 = c by omega]
    exact h
  | succ m ih =>
    intro k hk hsk
    refine ⟨vp, br_f (by rw [em]; exact nI_ge (by omega) (by omega)) ?_⟩
    rw [nb_24m, nI_1]
    refine ⟨vp_in_nI (by omega) (by omega), vp_in_nI (by omega) (by omega), nm_r (e' := kp_del ychildren q s (k + 1 + 1)) ?_ (nm_r (nI_1 k) (ih (k + 1) (by omega) (by omega)))⟩
    have e0 : kp_del ychildren q s (k + 1) (24 * q + k + 1) = ychildren (24 * q + (k + 1)) := by
      unfold kp_del
      rw [if_neg (by omega)]
      rfl
    have := kp_del_s (kc := ychildren) (p := q) (s := s) (i := k + 1) (by omega)
    rw [nb_cl (by omega), nb_cl (by omega), e0, hb _ (by omega)]
    exact this
theorem sy_take14 {post : SY → Prop} {e q s c : Nat} (hq : q < 24) (hc : c ≤ 23) (hs : s < c) (hct : ycount q = nI c) (hb : ∀ j, j < 600 → vp_nar .byte (ychildren j) = ychildren j) (hk : ∀ i, i < c → (ychildren (24 * q + i) = nI e ↔ i = s)) (h : post (yplace, yroot, yrowLength, yfirst, youts, ytop, ykind, ywith, ysize, ysort, ymany, yuse, ytypeOf, yleast, ygreatest, ylisted, ytypeOfName, yused, yvalued, ygiven, yname, yparent, kp_del ychildren q s c, upd ycount q (nI (c - 1)), yrow, yvalue, yattributes, yends, ylack, yshortest, youtKind, youtWith, ywork, yworkWith, yweight, yfollow, yfirsts, ylasts, ybare, ymet, ynameAt, ytokenAt, ytodo)) : ∀ m k, k + m = s → wY_take_14 post (nI e) (nI q) yplace yroot yrowLength yfirst youts ytop ykind ywith ysize ysort ymany yuse ytypeOf yleast ygreatest ylisted ytypeOfName yused yvalued ygiven yname yparent ychildren ycount yrow yvalue yattributes yends ylack yshortest youtKind youtWith ywork yworkWith yweight yfollow yfirsts ylasts ybare ymet ynameAt ytokenAt ytodo (m + 1) (nI k) := by
  have em : ycount (nI q).toNatClampNeg = nI c := by rw [nb_cl (by omega), hct]
  have vp : vp_in (nI q) 24 := vp_in_nI hq (by omega)
  intro m
  induction m with
  | zero =>
    intro k hk'
    obtain rfl : k = s := by omega
    show vp_in (24 * nI q + nI k) 600 ∧ _
    rw [nb_24m]
    refine ⟨vp_in_nI (by omega) (by omega), br_t (by rw [nb_cl (by omega)]; exact (hk k hs).mpr rfl) ⟨vp, vp, nm_r (e' := upd ycount q (nI (c - 1))) (by rw [em, nb_s1 (by omega), nb_v8 (by omega), nb_cl (by omega)]) ⟨c - 1 - k + 1, ?_⟩⟩⟩
    have := sy_take46 (ycount := upd ycount q (nI (c - 1))) (s := k) hq hc pk_us hb h hs (c - 1 - k) k (by omega) (Nat.le_refl k)
    rw [kp_del_0 (by omega)] at this
    exact this
  | succ m ih =>
    intro k hk'
    show vp_in (24 * nI q + nI k) 600 ∧ _
    rw [nb_24m]
    refine ⟨vp_in_nI (by omega) (by omega), br_f (by rw [nb_cl (by omega)]; exact fun e => absurd ((hk k (by omega)).mp e) (by omega)) (nm_r (nI_1 k) (ih (k + 1) (by omega)))⟩
theorem sy_take {post : SY → Prop} {e q s c : Nat} (hq : q < 24) (he : e < 24) (hc : c ≤ 23) (hs : s < c) (hpe : yparent e = nI q) (hct : ycount q = nI c) (hb : ∀ j, j < 600 → vp_nar .byte (ychildren j) = ychildren j) (hk : ∀ i, i < c → (ychildren (24 * q + i) = nI e ↔ i = s)) (h : post (yplace, yroot, yrowLength, yfirst, youts, ytop, ykind, ywith, ysize, ysort, ymany, yuse, ytypeOf, yleast, ygreatest, ylisted, ytypeOfName, yused, yvalued, ygiven, yname, yparent, kp_del ychildren q s c, upd ycount q (nI (c - 1)), yrow, yvalue, yattributes, yends, ylack, yshortest, youtKind, youtWith, ywork, yworkWith, yweight, yfollow, yfirsts, ylasts, ybare, ymet, ynameAt, ytokenAt, ytodo)) : wpY_take post (yplace, yroot, yrowLength, yfirst, youts, ytop, ykind, ywith, ysize, ysort, ymany, yuse, ytypeOf, yleast, ygreatest, ylisted, ytypeOfName, yused, yvalued, ygiven, yname, yparent, ychildren, ycount, yrow, yvalue, yattributes, yends, ylack, yshortest, youtKind, youtWith, ywork, yworkWith, yweight, yfollow, yfirsts, ylasts, ybare, ymet, ynameAt, ytokenAt, ytodo) (nI e) :=
  ⟨vp_in_nI he (by omega), nm_r (e' := nI q) (by rw [nb_cl (by omega), hpe]) (br_t (nb_pos (by omega)) ⟨s + 1, sy_take14 hq hc hs hct hb hk h s 0 (by omega)⟩)⟩
theorem sy_take0 {post : SY → Prop} {e : Nat} (he : e < 24) (hpe : yparent e = -1) (h : post (yplace, yroot, yrowLength, yfirst, youts, ytop, ykind, ywith, ysize, ysort, ymany, yuse, ytypeOf, yleast, ygreatest, ylisted, ytypeOfName, yused, yvalued, ygiven, yname, yparent, ychildren, ycount, yrow, yvalue, yattributes, yends, ylack, yshortest, youtKind, youtWith, ywork, yworkWith, yweight, yfollow, yfirsts, ylasts, ybare, ymet, ynameAt, ytokenAt, ytodo)) : wpY_take post (yplace, yroot, yrowLength, yfirst, youts, ytop, ykind, ywith, ysize, ysort, ymany, yuse, ytypeOf, yleast, ygreatest, ylisted, ytypeOfName, yused, yvalued, ygiven, yname, yparent, ychildren, ycount, yrow, yvalue, yattributes, yends, ylack, yshortest, youtKind, youtWith, ywork, yworkWith, yweight, yfollow, yfirsts, ylasts, ybare, ymet, ynameAt, ytokenAt, ytodo) (nI e) :=
  ⟨vp_in_nI he (by omega), nm_r (e' := -1) (by rw [nb_cl (by omega), hpe]) (br_f (by decide) h)⟩
end
