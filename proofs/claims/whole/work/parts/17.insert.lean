/-! ===== insert ===== -/
def ha_clr (ha : Nat → Int32) (f m : Nat) : Nat → Int32 := fun j => if 4 * f ≤ j ∧ j < 4 * f + m then 0 else ha j
theorem ha_0 (ha : Nat → Int32) (f : Nat) : ha_clr ha f 0 = ha := by
  funext j
  unfold ha_clr
  rw [if_neg (by omega)]
theorem ha_s (ha : Nat → Int32) (f m : Nat) : upd (ha_clr ha f m) (4 * f + m) 0 = ha_clr ha f (m + 1) := by
  funext j
  unfold upd ha_clr
  by_cases e : j = 4 * f + m
  · rw [if_pos e, if_pos (by omega)]
  · rw [if_neg e]
    by_cases h : 4 * f ≤ j ∧ j < 4 * f + m
    · rw [if_pos h, if_pos (by omega)]
    · rw [if_neg h, if_neg (by omega)]
/-- the least one not in use -/
theorem el_free (iu : Nat → Int32) : ∃ f, f ≤ 24 ∧ (∀ j, j < f → iu j ≠ 0) ∧ (f < 24 → iu f = 0) := by
  by_cases h : ∃ j, j < 24 ∧ iu j = 0
  · obtain ⟨f, h1, h2⟩ := pk_least (fun j => j < 24 ∧ iu j = 0) h
    refine ⟨f, by omega, fun j hj e => h2 j hj ⟨by omega, e⟩, fun _ => h1.2⟩
  · exact ⟨24, Nat.le_refl _, fun j hj e => h ⟨j, hj, e⟩, fun h => by omega⟩
section
variable {drafted latestPlace positions fragments elementCount : Int32} {draftKind draftValue weights tokenAt fragmentBegin fragmentFirst fragmentLast fragmentEmpty reachedWith follow bearing accepting kindOfType leastOf greatestOf listedCount listedValue attributeUse attributeType typeOfName inUse nameOf parentOf kidCount kids hasValue valueOf hasAttribute attributeValue walked waiting : Nat → Int32} {yplace yroot yrowLength yfirst youts ytop : Int32} {ykind ywith ysize ysort ymany yuse ytypeOf yleast ygreatest ylisted ytypeOfName yused yvalued ygiven yname yparent ychildren ycount yrow yvalue yattributes yends ylack yshortest youtKind youtWith ywork yworkWith yweight yfollow yfirsts ylasts ybare ymet ynameAt ytokenAt ytodo : Nat → Int32}
theorem sx_new60 {post : Int32 → SX → Prop} {f : Nat} {ec' : Int32} (hf : f < 24) (he : elementCount + 1 = ec') (h : post (nI f) (drafted, latestPlace, positions, fragments, ec', draftKind, draftValue, weights, tokenAt, fragmentBegin, fragmentFirst, fragmentLast, fragmentEmpty, reachedWith, follow, bearing, accepting, kindOfType, leastOf, greatestOf, listedCount, listedValue, attributeUse, attributeType, typeOfName, inUse, nameOf, parentOf, kidCount, kids, hasValue, valueOf, ha_clr hasAttribute f 4, attributeValue, walked, waiting)) : ∀ m i, i + m = 4 → wX_newElement_60 post (nI f) drafted latestPlace positions fragments elementCount (m + 1) (nI i) draftKind draftValue weights tokenAt fragmentBegin fragmentFirst fragmentLast fragmentEmpty reachedWith follow bearing accepting kindOfType leastOf greatestOf listedCount listedValue attributeUse attributeType typeOfName inUse nameOf parentOf kidCount kids hasValue valueOf (ha_clr hasAttribute f i) attributeValue walked waiting := by
  intro m
  induction m with
  | zero =>
    intro i hi
    obtain rfl : i = 4 := by omega
    exact br_t (by decide) (nm_r he h)
  | succ m ih =>
    intro i hi
    refine br_f (nI_ge (b := 4) (by omega) (by omega)) ?_
    rw [nb_m4]
    exact ⟨vp_in_nI (by omega) (by omega), nm_r (e' := ha_clr hasAttribute f (i + 1)) (by rw [nb_cl (by omega), nb_b0]; exact ha_s _ _ _) (nm_r (nI_1 i) (ih (i + 1) (by omega)))⟩
theorem sx_new23 {post : Int32 → SX → Prop} {f : Nat} {x ec' : Int32} (hf : f < 24) (he : elementCount + 1 = ec') (h : post (nI f) (drafted, latestPlace, positions, fragments, ec', draftKind, draftValue, weights, tokenAt, fragmentBegin, fragmentFirst, fragmentLast, fragmentEmpty, reachedWith, follow, bearing, accepting, kindOfType, leastOf, greatestOf, listedCount, listedValue, attributeUse, attributeType, typeOfName, upd inUse f 1, upd nameOf f x, upd parentOf f (-1), upd kidCount f 0, kids, upd hasValue f 0, valueOf, ha_clr hasAttribute f 4, attributeValue, walked, waiting)) : wX_newElement_23 post x (nI f) drafted latestPlace positions fragments elementCount draftKind draftValue weights tokenAt fragmentBegin fragmentFirst fragmentLast fragmentEmpty reachedWith follow bearing accepting kindOfType leastOf greatestOf listedCount listedValue attributeUse attributeType typeOfName inUse nameOf parentOf kidCount kids hasValue valueOf hasAttribute attributeValue walked waiting := by
  have vf : vp_in (nI f) 24 := vp_in_nI hf (by omega)
  have ef : (nI f).toNatClampNeg = f := nb_cl (by omega)
  refine ⟨vf, nm_r (by rw [ef, nb_b1]) ⟨vf, nm_r (by rw [ef]) ⟨vf, nm_r (by rw [ef]) ⟨vf, nm_r (by rw [ef]) ⟨vf, nm_r (by rw [ef, nb_b0]) ⟨5, ?_⟩⟩⟩⟩⟩⟩
  have := sx_new60 (inUse := upd inUse f 1) (nameOf := upd nameOf f x) (parentOf := upd parentOf f (-1)) (kidCount := upd kidCount f 0) (hasValue := upd hasValue f 0) hf he h 4 0 (by omega)
  rw [ha_0] at this
  exact this
theorem sx_new2 {post : Int32 → SX → Prop} {f : Nat} {x ec' : Int32} (hf : f < 24) (h1 : ∀ j, j < f → inUse j ≠ 0) (h2 : inUse f = 0) (he : elementCount + 1 = ec') (h : post (nI f) (drafted, latestPlace, positions, fragments, ec', draftKind, draftValue, weights, tokenAt, fragmentBegin, fragmentFirst, fragmentLast, fragmentEmpty, reachedWith, follow, bearing, accepting, kindOfType, leastOf, greatestOf, listedCount, listedValue, attributeUse, attributeType, typeOfName, upd inUse f 1, upd nameOf f x, upd parentOf f (-1), upd kidCount f 0, kids, upd hasValue f 0, valueOf, ha_clr hasAttribute f 4, attributeValue, walked, waiting)) : ∀ m i, i + m = f → wX_newElement_2 post x drafted latestPlace positions fragments elementCount draftKind draftValue weights tokenAt fragmentBegin fragmentFirst fragmentLast fragmentEmpty reachedWith follow bearing accepting kindOfType leastOf greatestOf listedCount listedValue attributeUse attributeType typeOfName inUse nameOf parentOf kidCount kids hasValue valueOf hasAttribute attributeValue walked waiting (m + 1) (nI i) := by
  intro m
  induction m with
  | zero =>
    intro i hi
    obtain rfl : i = f := by omega
    by_cases e : i = 23
    · subst e
      exact br_t (by decide) (sx_new23 hf he h)
    · exact br_f (nI_ge (b := 23) (by omega) (by omega)) ⟨vp_in_nI hf (by omega), br_t (by rw [nb_cl (by omega)]; exact h2) (sx_new23 hf he h)⟩
  | succ m ih =>
    intro i hi
    exact br_f (nI_ge (b := 23) (by omega) (by omega)) ⟨vp_in_nI (by omega) (by omega), br_f (by rw [nb_cl (by omega)]; exact h1 i (by omega)) (nm_r (nI_1 i) (ih (i + 1) (by omega)))⟩
theorem sx_newElement {post : Int32 → SX → Prop} {f : Nat} {x ec' : Int32} (hf : f < 24) (h1 : ∀ j, j < f → inUse j ≠ 0) (h2 : inUse f = 0) (he : elementCount + 1 = ec') (h : post (nI f) (drafted, latestPlace, positions, fragments, ec', draftKind, draftValue, weights, tokenAt, fragmentBegin, fragmentFirst, fragmentLast, fragmentEmpty, reachedWith, follow, bearing, accepting, kindOfType, leastOf, greatestOf, listedCount, listedValue, attributeUse, attributeType, typeOfName, upd inUse f 1, upd nameOf f x, upd parentOf f (-1), upd kidCount f 0, kids, upd hasValue f 0, valueOf, ha_clr hasAttribute f 4, attributeValue, walked, waiting)) : wpX_newElement post (drafted, latestPlace, positions, fragments, elementCount, draftKind, draftValue, weights, tokenAt, fragmentBegin, fragmentFirst, fragmentLast, fragmentEmpty, reachedWith, follow, bearing, accepting, kindOfType, leastOf, greatestOf, listedCount, listedValue, attributeUse, attributeType, typeOfName, inUse, nameOf, parentOf, kidCount, kids, hasValue, valueOf, hasAttribute, attributeValue, walked, waiting) x :=
  ⟨f + 1, sx_new2 hf h1 h2 he h f 0 (by omega)⟩
theorem sy_ins109R {post : Int32 → SY → Prop} {f : Nat} {x1 x2 : Int32} (hf : f < 24) (h : post (nI f) (yplace, nI f, yrowLength, yfirst, youts, ytop, ykind, ywith, ysize, ysort, ymany, yuse, ytypeOf, yleast, ygreatest, ylisted, ytypeOfName, yused, yvalued, ha_clr ygiven f 4, yname, upd yparent f (-1), ychildren, ycount, yrow, yvalue, yattributes, yends, ylack, yshortest, youtKind, youtWith, ywork, yworkWith, yweight, yfollow, yfirsts, ylasts, ybare, ymet, ynameAt, ytokenAt, ytodo)) : ∀ m i, i + m = 4 → wY_insert_109 post x1 x2 (nI f) yplace (-1) yrowLength yfirst youts ytop (m + 1) (nI i) ykind ywith ysize ysort ymany yuse ytypeOf yleast ygreatest ylisted ytypeOfName yused yvalued (ha_clr ygiven f i) yname yparent ychildren ycount yrow yvalue yattributes yends ylack yshortest youtKind youtWith ywork yworkWith yweight yfollow yfirsts ylasts ybare ymet ynameAt ytokenAt ytodo := by
  intro m
  induction m with
  | zero =>
    intro i hi
    obtain rfl : i = 4 := by omega
    exact br_t (by decide) ⟨vp_in_nI hf (by omega), nm_r (by rw [nb_cl (by omega), nb_m1]) (br_f (by decide) h)⟩
  | succ m ih =>
    intro i hi
    refine br_f (nI_ge (b := 4) (by omega) (by omega)) ?_
    rw [nb_4m]
    exact ⟨vp_in_nI (by omega) (by omega), nm_r (e' := ha_clr ygiven f (i + 1)) (by rw [nb_cl (by omega), nb_b0]; exact ha_s _ _ _) (nm_r (nI_1 i) (ih (i + 1) (by omega)))⟩
theorem sy_ins64R {post : Int32 → SY → Prop} {f n : Nat} {x1 x2 : Int32} (hf : f < 24) (hn : n < 6) (h : post (nI f) (yplace, nI f, yrowLength, yfirst, youts, ytop, ykind, ywith, ysize, ysort, ymany, yuse, ytypeOf, yleast, ygreatest, ylisted, ytypeOfName, upd yused f 1, upd yvalued f 0, ha_clr ygiven f 4, upd yname f (nI n), upd yparent f (-1), ychildren, upd ycount f 0, yrow, yvalue, yattributes, yends, ylack, yshortest, youtKind, youtWith, ywork, yworkWith, yweight, yfollow, yfirsts, ylasts, ybare, ymet, ynameAt, ytokenAt, ytodo)) : wY_insert_64 post x1 x2 (nI n) (nI f) yplace (-1) yrowLength yfirst youts ytop ykind ywith ysize ysort ymany yuse ytypeOf yleast ygreatest ylisted ytypeOfName yused yvalued ygiven yname yparent ychildren ycount yrow yvalue yattributes yends ylack yshortest youtKind youtWith ywork yworkWith yweight yfollow yfirsts ylasts ybare ymet ynameAt ytokenAt ytodo := by
  have vf : vp_in (nI f) 24 := vp_in_nI hf (by omega)
  have ef : (nI f).toNatClampNeg = f := nb_cl (by omega)
  refine br_f (fun e => absurd ((nI_eq (b := 24) (by omega) (by omega)).mp e) (by omega)) ⟨vf, nm_r (by rw [ef, nb_b1]) ⟨vf, nm_r (by rw [ef, nb_v8 (by omega)]) ⟨vf, nm_r (by rw [ef, nb_0]) ⟨vf, nm_r (by rw [ef, nb_b0]) ⟨5, ?_⟩⟩⟩⟩⟩
  have := sy_ins109R (yused := upd yused f 1) (yname := upd yname f (nI n)) (ycount := upd ycount f 0) (yvalued := upd yvalued f 0) (x1 := x1) (x2 := x2) hf h 4 0 (by omega)
  rw [ha_0] at this
  exact this
theorem sy_ins109P {post : Int32 → SY → Prop} {f e k c : Nat} (hf : f < 24) (he : e < 24) (hfe : f ≠ e) (hc : c ≤ 23) (hk : k ≤ c) (hct : ycount e = nI c) (hb : ∀ j, j < 600 → vp_nar .byte (ychildren j) = ychildren j) (h : post (nI f) (yplace, 0, yrowLength, yfirst, youts, ytop, ykind, ywith, ysize, ysort, ymany, yuse, ytypeOf, yleast, ygreatest, ylisted, ytypeOfName, yused, yvalued, ha_clr ygiven f 4, yname, upd (upd yparent f (-1)) f (nI e), kp_ins ychildren e c k (nI f), upd ycount e (nI (c + 1)), yrow, yvalue, yattributes, yends, ylack, yshortest, youtKind, youtWith, ywork, yworkWith, yweight, yfollow, yfirsts, ylasts, ybare, ymet, ynameAt, ytokenAt, ytodo)) : ∀ m i, i + m = 4 → wY_insert_109 post (nI e) (nI k) (nI f) yplace 0 yrowLength yfirst youts ytop (m + 1) (nI i) ykind ywith ysize ysort ymany yuse ytypeOf yleast ygreatest ylisted ytypeOfName yused yvalued (ha_clr ygiven f i) yname yparent ychildren ycount yrow yvalue yattributes yends ylack yshortest youtKind youtWith ywork yworkWith yweight yfollow yfirsts ylasts ybare ymet ynameAt ytokenAt ytodo := by
  intro m
  induction m with
  | zero =>
    intro i hi
    obtain rfl : i = 4 := by omega
    refine br_t (by decide) ⟨vp_in_nI hf (by omega), nm_r (e' := upd yparent f (-1)) (by rw [nb_cl (by omega), nb_m1]) (br_t (by decide) ?_)⟩
    exact sy_put (yparent := upd yparent f (-1)) he hf hc hk hct hb h
  | succ m ih =>
    intro i hi
    refine br_f (nI_ge (b := 4) (by omega) (by omega)) ?_
    rw [nb_4m]
    exact ⟨vp_in_nI (by omega) (by omega), nm_r (e' := ha_clr ygiven f (i + 1)) (by rw [nb_cl (by omega), nb_b0]; exact ha_s _ _ _) (nm_r (nI_1 i) (ih (i + 1) (by omega)))⟩
theorem sy_ins64P {post : Int32 → SY → Prop} {f n e k c : Nat} (hf : f < 24) (hn : n < 6) (he : e < 24) (hfe : f ≠ e) (hc : c ≤ 23) (hk : k ≤ c) (hct : ycount e = nI c) (hb : ∀ j, j < 600 → vp_nar .byte (ychildren j) = ychildren j) (h : post (nI f) (yplace, 0, yrowLength, yfirst, youts, ytop, ykind, ywith, ysize, ysort, ymany, yuse, ytypeOf, yleast, ygreatest, ylisted, ytypeOfName, upd yused f 1, upd yvalued f 0, ha_clr ygiven f 4, upd yname f (nI n), upd (upd yparent f (-1)) f (nI e), kp_ins ychildren e c k (nI f), upd (upd ycount f 0) e (nI (c + 1)), yrow, yvalue, yattributes, yends, ylack, yshortest, youtKind, youtWith, ywork, yworkWith, yweight, yfollow, yfirsts, ylasts, ybare, ymet, ynameAt, ytokenAt, ytodo)) : wY_insert_64 post (nI e) (nI k) (nI n) (nI f) yplace 0 yrowLength yfirst youts ytop ykind ywith ysize ysort ymany yuse ytypeOf yleast ygreatest ylisted ytypeOfName yused yvalued ygiven yname yparent ychildren ycount yrow yvalue yattributes yends ylack yshortest youtKind youtWith ywork yworkWith yweight yfollow yfirsts ylasts ybare ymet ynameAt ytokenAt ytodo := by
  have vf : vp_in (nI f) 24 := vp_in_nI hf (by omega)
  have ef : (nI f).toNatClampNeg = f := nb_cl (by omega)
  refine br_f (fun e => absurd ((nI_eq (b := 24) (by omega) (by omega)).mp e) (by omega)) ⟨vf, nm_r (by rw [ef, nb_b1]) ⟨vf, nm_r (by rw [ef, nb_v8 (by omega)]) ⟨vf, nm_r (by rw [ef, nb_0]) ⟨vf, nm_r (by rw [ef, nb_b0]) ⟨5, ?_⟩⟩⟩⟩⟩
  have hct' : upd ycount f 0 e = nI c := by rw [pk_un (by omega), hct]
  have := sy_ins109P (yused := upd yused f 1) (yname := upd yname f (nI n)) (ycount := upd ycount f 0) (yvalued := upd yvalued f 0) hf he hfe hc hk hct' hb h 4 0 (by omega)
  rw [ha_0] at this
  exact this
theorem sy_ins3 {post : Int32 → SY → Prop} {f : Nat} {x1 x2 x3 : Int32} (hf : f ≤ 24) (h1 : ∀ j, j < f → yused j ≠ 0) (h2 : f < 24 → yused f = 0) (h : wY_insert_26 post x1 x2 x3 (nI f) yplace yroot yrowLength yfirst youts ytop ykind ywith ysize ysort ymany yuse ytypeOf yleast ygreatest ylisted ytypeOfName yused yvalued ygiven yname yparent ychildren ycount yrow yvalue yattributes yends ylack yshortest youtKind youtWith ywork yworkWith yweight yfollow yfirsts ylasts ybare ymet ynameAt ytokenAt ytodo) : ∀ m i, i + m = f → wY_insert_3 post x1 x2 x3 yplace yroot yrowLength yfirst youts ytop ykind ywith ysize ysort ymany yuse ytypeOf yleast ygreatest ylisted ytypeOfName yused yvalued ygiven yname yparent ychildren ycount yrow yvalue yattributes yends ylack yshortest youtKind youtWith ywork yworkWith yweight yfollow yfirsts ylasts ybare ymet ynameAt ytokenAt ytodo (m + 1) (nI i) := by
  intro m
  induction m with
  | zero =>
    intro i hi
    obtain rfl : i = f := by omega
    by_cases e : i = 24
    · subst e
      exact br_t (by decide) h
    · exact br_f (nI_ge (b := 24) (by omega) (by omega)) ⟨vp_in_nI (by omega) (by omega), br_t (by rw [nb_cl (by omega)]; exact h2 (by omega)) h⟩
  | succ m ih =>
    intro i hi
    exact br_f (nI_ge (b := 24) (by omega) (by omega)) ⟨vp_in_nI (by omega) (by omega), br_f (by rw [nb_cl (by omega)]; exact h1 i (by omega)) (nm_r (nI_1 i) (ih (i + 1) (by omega)))⟩
end
theorem rl_E_new {ec root : Int32} {iu nm pp ct kc yp : Nat → Int32} {n : Nat} (h : rl_E ec root iu nm pp ct kc yp) (h0 : tr_cn iu 24 = 0) (hn : n < 6) : rl_E (nI 1) (nI 0) (upd iu 0 1) (upd nm 0 (nI n)) (upd pp 0 (-1)) (upd ct 0 0) kc (upd yp 0 (-1)) := by
  obtain ⟨h1, h2, h3, po, c, ch, g, rk, a1, a2, a3, a4, a5⟩ := h
  have z := (tr_cn_none 24).mp h0
  have z' : ∀ e, iu e ≠ 0 → False := fun e he => he (z e (a5.1.1 e he))
  have us : ∀ e, upd iu 0 1 e ≠ 0 → e = 0 := by
    intro e he
    by_cases q : e = 0
    · exact q
    · rw [pk_un q] at he; exact (z' e he).elim
  refine ⟨?_, ?_, h3, fun _ => none, fun _ => 0, fun _ _ => 0, ft_u g 0 n, fun _ => 0, fun e => ?_, fun e he => ?_, fun e he hu => ?_, fun e k _ _ hk => absurd hk (Nat.not_lt_zero _), ⟨⟨fun e hu => by rw [us e hu]; omega, fun p k _ hk => absurd hk (Nat.not_lt_zero _), fun p i j _ hi => absurd hi (Nat.not_lt_zero _)⟩, fun e hu => Or.inl (us e hu), fun e _ => ?_, fun _ => rfl⟩⟩
  · rw [tr_cn_set (z 0 (by omega)) nb_10 24 (by omega), h0]
  · rw [pk_us, if_neg nb_10]; rfl
  · by_cases q : e = 0
    · rw [q, pk_us]; exact Or.inr rfl
    · rw [pk_un q]; exact a1 e
  · by_cases q : e = 0
    · rw [q, pk_us, ft_s]; exact ⟨rfl, hn⟩
    · rw [pk_un q, ft_n q]; exact a2 e he
  · rw [us e hu, pk_us, pk_us, pk_us]
    exact ⟨rfl, rfl, rfl⟩
  · show upd iu 0 1 0 ≠ 0
    rw [pk_us]; exact nb_10
theorem rl_E_ins {ec root : Int32} {iu nm pp ct kc yp : Nat → Int32} {n e f k : Nat} {po : Nat → Option Nat} {c : Nat → Nat} {ch : Nat → Nat → Nat} {g rk : Nat → Nat} (hec : ec = nI (tr_cn iu 24)) (hroot : root = (if iu 0 = 0 then -1 else 0)) (h3 : ∀ j, j < 600 → vp_nar .byte (kc j) = kc j) (hE : rl_E1 iu nm pp ct kc yp po c ch g rk) (hn : n < 6) (he : e < 24) (hu : iu e ≠ 0) (hf : f < 24) (hfu : iu f = 0) (hk : k ≤ c e) :
    rl_E (nI (tr_cn iu 24 + 1)) root (upd iu f 1) (upd nm f (nI n)) (upd (upd pp f (-1)) f (nI e)) (upd (upd ct f 0) e (nI (c e + 1))) (kp_ins kc e (c e) k (nI f)) (upd (upd yp f (-1)) f (nI e)) := by
  obtain ⟨a1, a2, a3, a4, a5⟩ := hE
  obtain ⟨hF, t2, t3, t4⟩ := a5
  have hef : e ≠ f := fun q => hu (q ▸ hfu)
  have u0 : iu 0 ≠ 0 := t3 e hu
  have h0f : 0 ≠ f := fun q => u0 (q ▸ hfu)
  have us' : ∀ x, upd iu f 1 x ≠ 0 ↔ iu x ≠ 0 ∨ x = f := by
    intro x
    by_cases q : x = f
    · rw [q, pk_us]; exact ⟨fun _ => Or.inr rfl, fun _ => nb_10⟩
    · rw [pk_un q]; exact ⟨Or.inl, fun h => h.resolve_right q⟩
  have nf : ∀ x, iu x ≠ 0 → x ≠ f := fun x hx q => hx (q ▸ hfu)
  have hc23 := tr_F_c hF hu
  have hF0 : tr_F (fun x => iu x ≠ 0) po (ft_u c f 0) ch rk := by
    obtain ⟨f1, f2, f3⟩ := hF
    refine ⟨f1, fun p i hp hi => ?_, fun p i j hp hi hj q => ?_⟩
    · rw [ft_n (nf p hp)] at hi; exact f2 p i hp hi
    · rw [ft_n (nf p hp)] at hi hj; exact f3 p i j hp hi hj q
  have hc0 : ft_u c f 0 e = c e := ft_n hef
  have hk0 : k ≤ ft_u c f 0 e := by rw [hc0]; exact hk
  have hne : ∀ x i, iu x ≠ 0 → i < ft_u c f 0 x → ch x i ≠ f := by
    intro x i hx hi q
    have := (hF0.2.1 x i hx hi).1
    rw [q] at this
    exact this hfu
  have hI := tr_ins (us' := fun x => upd iu f 1 x ≠ 0) (po' := ft_u po f (some e)) (rk' := ft_u rk f (rk e + 1)) (k := k) hF0 hu hf hne us' (fun x q => ft_n q) ft_s hk0 (fun _ => ft_s) (Ne.symm hef)
    (fun x i hx hi => by
      rw [ft_n (nf x hx), ft_n (hne x i hx hi)]
      exact (hF0.2.1 x i hx hi).2.2)
    (by rw [ft_n hef, ft_s]; omega)
  have hic : ∀ x, tr_ic (ft_u c f 0) e x = if x = e then c e + 1 else ft_u c f 0 x := by
    intro x
    unfold tr_ic
    rw [hc0]
  refine ⟨?_, ?_, kp_ins_b h3 (nb_vb (by omega)), ft_u po f (some e), tr_ic (ft_u c f 0) e, tr_ik ch e k f, ft_u g f n, ft_u rk f (rk e + 1), fun x => ?_, fun x hx => ?_, fun x hx hux => ?_, ?_, hI, fun x hx => ?_, fun x _ => (us' 0).mpr (Or.inl u0), fun _ => by rw [ft_n h0f]; exact t4 u0⟩
  · rw [tr_cn_set hfu nb_10 24 hf]
  · rw [hroot, pk_un h0f]
  · by_cases q : x = f
    · rw [q, pk_us]; exact Or.inr rfl
    · rw [pk_un q]; exact a1 x
  · by_cases q : x = f
    · rw [q, pk_us, ft_s]; exact ⟨rfl, hn⟩
    · rw [pk_un q, ft_n q]; exact a2 x hx
  · rw [hic]
    by_cases q : x = f
    · have h1 : upd (upd ct f 0) e (nI (c e + 1)) f = 0 := by rw [pk_un (Ne.symm hef), pk_us]
      rw [q, h1, pk_us, pk_us, ft_s, if_neg (Ne.symm hef), ft_s]
      exact ⟨rfl, rfl, rfl⟩
    · have hux' : iu x ≠ 0 := ((us' x).mp hux).resolve_right q
      obtain ⟨b1, b2, b3⟩ := a3 x hx hux'
      rw [pk_un q, pk_un q, pk_un q, pk_un q, ft_n q, ft_n q]
      refine ⟨?_, b2, b3⟩
      by_cases r : x = e
      · rw [r, pk_us, if_pos rfl]
      · rw [pk_un r, pk_un q, if_neg r]; exact b1
  · have := kp_ins_ok (iu := iu) (iu' := upd iu f 1) (c := ft_u c f 0) (ch := ch) (kc := kc) (p := e) (k := k) (e := f) (fun x i hx hux hi => by
        rw [ft_n (nf x hux)] at hi
        exact a4 x i hx hux hi) (by rw [hc0]; exact hc23) hk0 (fun x hx hux => by
        rcases (us' x).mp hux with h | h
        · exact Or.inl h
        · exact Or.inr (by rw [h]; exact ft_s)) (fun x hx hux => by
        rcases (us' x).mp hux with h | h
        · rw [ft_n (nf x h)]
          exact tr_F_c hF h
        · rw [h, ft_s]; omega) he (Ne.symm hef)
    rw [hc0] at this
    exact this
  · by_cases q : x = f
    · rw [q]
      exact Or.inr (tr_PK_e ((us' e).mpr (Or.inl hu)) ft_s hk0)
    · rcases t2 x (((us' x).mp hx).resolve_right q) with h | ⟨p, i, b1, b2, b3, b4⟩
      · exact Or.inl h
      · exact Or.inr (tr_PK_ins (us := fun x => iu x ≠ 0) (po := po) (fun y hy => (us' y).mpr (Or.inl hy)) (ft_n q) hk0 ⟨p, i, b1, b2, by rw [ft_n (nf p b2)]; exact b3, b4⟩)
theorem i_vc_insert {k : Nat} {u : SX} {v : SY} (I : i_Rel k u v) (hk : k + 5 ≤ 2560) (v1 : Int32) (v2 : Int32) (v3 : Int32) : wpX_insert (fun r u' => wpY_insert (fun r' v' => r' = r ∧ i_Rel (k + 5) u' v') v v1 v2 v3) u v1 v2 v3 := by
  refine i_el I (P := fun u v => wpX_insert (fun r u' => wpY_insert (fun r' v' => r' = r ∧ i_Rel (k + 5) u' v') v v1 v2 v3) u v1 v2 v3) ?_
  intro d latestPlace positions fragments elementCount draftKind draftValue weights tokenAt fragmentBegin fragmentFirst fragmentLast fragmentEmpty reachedWith follow bearing accepting kindOfType leastOf greatestOf listedCount listedValue attributeUse attributeType typeOfName inUse nameOf parentOf kidCount kids hasValue valueOf hasAttribute attributeValue walked waiting yroot yrowLength yfirst youts ytop ykind ywith ysize yparent yrow yends ylack yshortest youtKind youtWith ywork yworkWith yweight yfollow yfirsts ylasts ybare ymet ynameAt ytokenAt ytodo hD hT hM hE
  unfold wpX_insert
  obtain ⟨f, f24, f1, f2⟩ := el_free inUse
  have fin : ∀ {post : Int32 → SY → Prop}, wY_insert_26 post v1 v2 v3 (nI f) latestPlace yroot yrowLength yfirst youts ytop ykind ywith ysize kindOfType listedCount attributeUse attributeType leastOf greatestOf listedValue typeOfName inUse hasValue hasAttribute nameOf yparent kids kidCount yrow valueOf attributeValue yends ylack yshortest youtKind youtWith ywork yworkWith yweight yfollow yfirsts ylasts ybare ymet ynameAt ytokenAt ytodo → wpY_insert post (latestPlace, yroot, yrowLength, yfirst, youts, ytop, ykind, ywith, ysize, kindOfType, listedCount, attributeUse, attributeType, leastOf, greatestOf, listedValue, typeOfName, inUse, hasValue, hasAttribute, nameOf, yparent, kids, kidCount, yrow, valueOf, attributeValue, yends, ylack, yshortest, youtKind, youtWith, ywork, yworkWith, yweight, yfollow, yfirsts, ylasts, ybare, ymet, ynameAt, ytokenAt, ytodo) v1 v2 v3 := fun h => ⟨f + 1, sy_ins3 f24 f1 f2 h f 0 (by omega)⟩
  rcases nb_ix v3 6 (by omega) with hv | ⟨n, hn, rfl⟩
  · refine sx_name0 hv ?_
    refine br_t rfl ?_
    refine fin ?_
    unfold wY_insert_26
    refine sy_out1 (n := 6) (by omega) hv ?_
    refine br_f nb_10 ?_
    exact ⟨rfl, i_mk hD hT hM hE⟩
  · refine sx_name1 hn ?_
    refine br_f nb_10 ?_
    have hE' := hE
    obtain ⟨hec, hroot, hb, po, c, ch, g, rk, hE1⟩ := hE'
    have hI := hE1.2.2.2.2
    have cn24 := tr_cn_le inUse 24
    subst hec
    by_cases c0 : tr_cn inUse 24 = 0
    · have z := (tr_cn_none 24).mp c0
      have z0 : inUse 0 = 0 := z 0 (by omega)
      have hr : yroot = -1 := by rw [hroot, if_pos z0]
      obtain rfl : f = 0 := by
        rcases Nat.eq_zero_or_pos f with h | h
        · exact h
        · exact absurd z0 (f1 0 h)
      subst hr
      refine br_t (by rw [c0]; rfl) ?_
      refine sx_newElement (f := 0) (ec' := nI 1) (by omega) (fun j hj => by omega) z0 (by rw [c0]; rfl) ?_
      refine fin ?_
      unfold wY_insert_26
      refine sy_out0 (n := 6) (by omega) hn ?_
      refine br_t rfl ?_
      refine br_t (by decide) ?_
      exact sy_ins64R (f := 0) (by omega) hn ⟨rfl, i_mk hD hT hM (rl_E_new hE c0 hn)⟩
    · refine br_f (fun e => c0 ((nI_eq (b := 0) (by omega) (by omega)).mp e)) ?_
      have u0 : inUse 0 ≠ 0 := by
        intro z0
        apply c0
        refine (tr_cn_none 24).mpr (fun i _ => ?_)
        apply Classical.byContradiction
        intro h
        exact hI.2.2.1 i h z0
      have hr : yroot = 0 := by rw [hroot, if_neg u0]
      subst hr
      have bad : (f = 24 ∨ ((v1 < 0 ∨ nI 24 ≤ v1) ∨ ∃ j, j < 24 ∧ v1 = nI j ∧ inUse j = 0) ∨ v2 < 0 ∨ ∃ e, e < 24 ∧ v1 = nI e ∧ inUse e ≠ 0 ∧ kidCount e < v2) → wpY_insert (fun r' v' => r' = -1 ∧ i_Rel (k + 5) (nI d, latestPlace, positions, fragments, nI (tr_cn inUse 24), draftKind, draftValue, weights, tokenAt, fragmentBegin, fragmentFirst, fragmentLast, fragmentEmpty, reachedWith, follow, bearing, accepting, kindOfType, leastOf, greatestOf, listedCount, listedValue, attributeUse, attributeType, typeOfName, inUse, nameOf, parentOf, kidCount, kids, hasValue, valueOf, hasAttribute, attributeValue, walked, waiting) v') (latestPlace, 0, yrowLength, yfirst, youts, ytop, ykind, ywith, ysize, kindOfType, listedCount, attributeUse, attributeType, leastOf, greatestOf, listedValue, typeOfName, inUse, hasValue, hasAttribute, nameOf, yparent, kids, kidCount, yrow, valueOf, attributeValue, yends, ylack, yshortest, youtKind, youtWith, ywork, yworkWith, yweight, yfollow, yfirsts, ylasts, ybare, ymet, ynameAt, ytokenAt, ytodo) v1 v2 (nI n) := by
        intro hbad
        refine fin ?_
        unfold wY_insert_26
        refine sy_out0 (n := 6) (by omega) hn ?_
        refine br_t rfl ?_
        refine br_f (by decide) ?_
        rcases el_cs inUse v1 with h | ⟨e, he, rfl, hu⟩
        · try unfold wpY_insert
          refine sy_no1 h ?_
          refine br_f nb_10 ?_
          exact ⟨rfl, i_mk hD hT hM hE⟩
        · try unfold wpY_insert
          refine sy_no0 he hu ?_
          refine br_t rfl ?_
          by_cases h0 : v2 < 0
          · exact br_t h0 ⟨rfl, i_mk hD hT hM hE⟩
          · refine br_f h0 ⟨vp_in_nI he (by omega), ?_⟩
            rw [nb_cl (by omega)]
            by_cases h1 : kidCount e < v2
            · exact br_t h1 ⟨rfl, i_mk hD hT hM hE⟩
            · refine br_f h1 ?_
              have hf : f = 24 := by
                rcases hbad with h | h | h | ⟨e', he', q, _, h⟩
                · exact h
                · rcases h with h | ⟨j, hj, q, hz⟩
                  · rcases h with h | h
                    · exact absurd h (nI_pos (by omega))
                    · exact absurd h (nI_ge (b := 24) he (by omega))
                  · obtain rfl := (nI_eq (by omega) (by omega)).mp q
                    exact absurd hz hu
                · exact absurd h h0
                · obtain rfl := (nI_eq (by omega) (by omega)).mp q
                  exact absurd h h1
              exact br_t (by rw [hf]; rfl) ⟨rfl, i_mk hD hT hM hE⟩
      refine pk_le 24 (tr_cn inUse 24) (fun h => bad (Or.inl ?_)) (fun hlt => ?_)
      · apply Classical.byContradiction
        intro hf
        have := (tr_cn_full (U := inUse) 24).mp (by omega) f (by omega)
        exact this (f2 (by omega))
      · rcases el_cs inUse v1 with h | ⟨e, he, rfl, hu⟩
        · refine sx_elem0 h ?_
          refine br_t rfl ?_
          exact bad (Or.inr (Or.inl h))
        · refine sx_elem1 he hu ?_
          refine br_f nb_10 ?_
          have h23 := tr_F_c hI.1 hu
          have em : kidCount e = nI (c e) := (hE1.2.2.1 e he hu).1
          have hf : f < 24 := by
            rcases Nat.lt_or_ge f 24 with h | h
            · exact h
            · have := (tr_cn_full (U := inUse) 24).mpr (fun i hi => f1 i (by omega))
              omega
          by_cases h0 : v2 < 0
          · exact br_t h0 (bad (Or.inr (Or.inr (Or.inl h0))))
          · obtain ⟨i, hi, rfl⟩ := nI_of h0
            refine br_f h0 ⟨vp_in_nI he (by omega), ?_⟩
            rw [nb_cl (by omega)]
            refine pk_le i (c e) (fun hle => ?_) (fun hgt => bad (Or.inr (Or.inr (Or.inr ⟨e, he, rfl, hu, by rw [em]; exact nI_lt hgt hi⟩)))) rfl em
            have hfe : f ≠ e := fun q => hu (q ▸ f2 hf)
            refine sx_newElement (ec' := nI (tr_cn inUse 24 + 1)) hf f1 (f2 hf) (nI_1 _) ?_
            refine sx_attach (kidCount := upd kidCount f 0) (parentOf := upd parentOf f (-1)) he hf h23 hle (by rw [pk_un (Ne.symm hfe), em]) ?_
            refine fin ?_
            unfold wY_insert_26
            refine sy_out0 (n := 6) (by omega) hn ?_
            refine br_t rfl ?_
            refine br_f (by decide) ?_
            refine sy_no0 he hu ?_
            refine br_t rfl ?_
            refine br_f h0 ⟨vp_in_nI he (by omega), br_f ?_ ?_⟩
            · rw [nb_cl (by omega), em]; exact nI_nlt hle (by omega)
            · exact sy_ins64P hf hn he hfe h23 hle em hb ⟨rfl, i_mk hD hT hM (rl_E_ins rfl hroot hb hE1 hn he hu hf (f2 hf) hle)⟩
