/-! ===== remove: both sides ===== -/
section
variable {drafted latestPlace positions fragments elementCount : Int32} {draftKind draftValue weights tokenAt fragmentBegin fragmentFirst fragmentLast fragmentEmpty reachedWith follow bearing accepting kindOfType leastOf greatestOf listedCount listedValue attributeUse attributeType typeOfName inUse nameOf parentOf kidCount kids hasValue valueOf hasAttribute attributeValue walked waiting : Nat → Int32} {yplace yroot yrowLength yfirst youts ytop : Int32} {ykind ywith ysize ysort ymany yuse ytypeOf yleast ygreatest ylisted ytypeOfName yused yvalued ygiven yname yparent ychildren ycount yrow yvalue yattributes yends ylack yshortest youtKind youtWith ywork yworkWith yweight yfollow yfirsts ylasts ybare ymet ynameAt ytokenAt ytodo : Nat → Int32}
theorem sx_rem23 {post : Int32 → SX → Prop} {ws : List Nat} {ec' : Int32} (hwk : wk_R walked ws) (h24 : ∀ x, x ∈ ws → x < 24) (hl : ws.length ≤ 24) (he : elementCount - nI ws.length = ec') (h : post (nI ws.length) (drafted, latestPlace, positions, fragments, ec', draftKind, draftValue, weights, tokenAt, fragmentBegin, fragmentFirst, fragmentLast, fragmentEmpty, reachedWith, follow, bearing, accepting, kindOfType, leastOf, greatestOf, listedCount, listedValue, attributeUse, attributeType, typeOfName, rm_l inUse ws, nameOf, parentOf, kidCount, kids, hasValue, valueOf, hasAttribute, attributeValue, walked, waiting)) : ∀ m i, i + m = ws.length → wX_remove_23 post (nI ws.length) drafted latestPlace positions fragments elementCount (m + 1) (nI i) draftKind draftValue weights tokenAt fragmentBegin fragmentFirst fragmentLast fragmentEmpty reachedWith follow bearing accepting kindOfType leastOf greatestOf listedCount listedValue attributeUse attributeType typeOfName (rm_l inUse (ws.take i)) nameOf parentOf kidCount kids hasValue valueOf hasAttribute attributeValue walked waiting := by
  intro m
  induction m with
  | zero =>
    intro i hi
    obtain rfl : i = ws.length := by omega
    rw [List.take_length]
    exact br_t (nI_le (Nat.le_refl _) (by omega)) (nm_r he h)
  | succ m ih =>
    intro i hi
    have hi' : i < ws.length := by omega
    obtain ⟨x, hx⟩ : ∃ x, ws[i]? = some x := ⟨ws[i], List.getElem?_eq_getElem hi'⟩
    have hx24 := h24 x (List.mem_of_getElem? hx)
    have ew : walked (nI i).toNatClampNeg = nI x := by rw [nb_cl (by omega)]; exact hwk i x hx
    refine br_f (nI_ge (by omega) (by omega)) ⟨vp_in_nI (by omega) (by omega), ?_⟩
    rw [ew]
    refine ⟨vp_in_nI hx24 (by omega), nm_r (e' := rm_l inUse (ws.take (i + 1))) ?_ (nm_r (nI_1 i) (ih (i + 1) (by omega)))⟩
    rw [nb_cl (by omega), nb_b0, rm_l_s, List.take_add_one, hx]
    rfl
theorem sy_rem60 {post : Int32 → SY → Prop} {e : Nat} {g : Int32} (h1 : nI e = yroot → post (nI (cb_n (bt g) 24)) (yplace, -1, yrowLength, yfirst, youts, ytop, ykind, ywith, ysize, ysort, ymany, yuse, ytypeOf, yleast, ygreatest, ylisted, ytypeOfName, rm_b yused g 24, yvalued, ygiven, yname, yparent, ychildren, ycount, yrow, yvalue, yattributes, yends, ylack, yshortest, youtKind, youtWith, ywork, yworkWith, yweight, yfollow, yfirsts, ylasts, ybare, ymet, ynameAt, ytokenAt, ytodo)) (h0 : ¬ nI e = yroot → post (nI (cb_n (bt g) 24)) (yplace, yroot, yrowLength, yfirst, youts, ytop, ykind, ywith, ysize, ysort, ymany, yuse, ytypeOf, yleast, ygreatest, ylisted, ytypeOfName, rm_b yused g 24, yvalued, ygiven, yname, yparent, ychildren, ycount, yrow, yvalue, yattributes, yends, ylack, yshortest, youtKind, youtWith, ywork, yworkWith, yweight, yfollow, yfirsts, ylasts, ybare, ymet, ynameAt, ytokenAt, ytodo)) : ∀ m i, i + m = 24 → wY_remove_60 post (nI e) g yplace yroot yrowLength yfirst youts ytop (m + 1) (nI (cb_n (bt g) i)) (nI i) ykind ywith ysize ysort ymany yuse ytypeOf yleast ygreatest ylisted ytypeOfName (rm_b yused g i) yvalued ygiven yname yparent ychildren ycount yrow yvalue yattributes yends ylack yshortest youtKind youtWith ywork yworkWith yweight yfollow yfirsts ylasts ybare ymet ynameAt ytokenAt ytodo := by
  intro m
  induction m with
  | zero =>
    intro i hi
    obtain rfl : i = 24 := by omega
    exact br_t (by decide) (br_c h1 h0)
  | succ m ih =>
    intro i hi
    have ih' := ih (i + 1) (by omega)
    refine br_f (nI_ge (b := 24) (by omega) (by omega)) ?_
    cases hb : bt g i with
    | false =>
      have ec : cb_n (bt g) (i + 1) = cb_n (bt g) i := by
        show cb_n (bt g) i + _ = _
        rw [if_neg (by rw [hb]; exact Bool.false_ne_true)]
        rfl
      rw [ec, ← rm_b_f hb] at ih'
      exact br_t ((bb_t g (by omega)).mpr hb) (nm_r (nI_1 i) ih')
    | true =>
      have ec : cb_n (bt g) (i + 1) = cb_n (bt g) i + 1 := by
        show cb_n (bt g) i + _ = _
        rw [if_pos hb]
      rw [ec, ← rm_b_t hb] at ih'
      exact br_f ((bb_t' g (by omega)).mpr hb) ⟨vp_in_nI (by omega) (by omega), nm_r (by rw [nb_cl (by omega), nb_b0]) (nm_r (nI_1 _) (nm_r (nI_1 i) ih'))⟩
theorem sy_rem19 {post : Int32 → SY → Prop} {po : Nat → Option Nat} {c : Nat → Nat} {ch : Nat → Nat → Nat} {rk : Nat → Nat} {e : Nat} (hI : tr_I (fun x => yused x ≠ 0) po c ch rk) (hpp : ∀ x, x < 24 → yused x ≠ 0 → yparent x = rl_p (po x)) (he : e < 24)
    (h : ∀ g : Int32, (∀ j, bt g j = true ↔ j < 24 ∧ yused j ≠ 0 ∧ ∃ i, tr_B po e i j) → (nI e = yroot → post (nI (cb_n (bt g) 24)) (yplace, -1, yrowLength, yfirst, youts, ytop, ykind, ywith, ysize, ysort, ymany, yuse, ytypeOf, yleast, ygreatest, ylisted, ytypeOfName, rm_b yused g 24, yvalued, ygiven, yname, yparent, ychildren, ycount, yrow, yvalue, yattributes, yends, ylack, yshortest, youtKind, youtWith, ywork, yworkWith, yweight, yfollow, yfirsts, ylasts, ybare, ymet, ynameAt, ytokenAt, ytodo)) ∧ (¬ nI e = yroot → post (nI (cb_n (bt g) 24)) (yplace, yroot, yrowLength, yfirst, youts, ytop, ykind, ywith, ysize, ysort, ymany, yuse, ytypeOf, yleast, ygreatest, ylisted, ytypeOfName, rm_b yused g 24, yvalued, ygiven, yname, yparent, ychildren, ycount, yrow, yvalue, yattributes, yends, ylack, yshortest, youtKind, youtWith, ywork, yworkWith, yweight, yfollow, yfirsts, ylasts, ybare, ymet, ynameAt, ytokenAt, ytodo))) : ∀ m i g, i + m = 24 → (∀ j, bt g j = true ↔ j < i ∧ yused j ≠ 0 ∧ ∃ i, tr_B po e i j) → wY_remove_19 post (nI e) yplace yroot yrowLength yfirst youts ytop ykind ywith ysize ysort ymany yuse ytypeOf yleast ygreatest ylisted ytypeOfName yused yvalued ygiven yname yparent ychildren ycount yrow yvalue yattributes yends ylack yshortest youtKind youtWith ywork yworkWith yweight yfollow yfirsts ylasts ybare ymet ynameAt ytokenAt ytodo (m + 1) g (nI i) := by
  intro m
  induction m with
  | zero =>
    intro i g hi hg
    obtain rfl : i = 24 := by omega
    obtain ⟨h1, h0⟩ := h g hg
    refine br_t (by decide) ⟨25, ?_⟩
    have := sy_rem60 h1 h0 24 0 (by omega)
    rw [rm_b_0] at this
    exact this
  | succ m ih =>
    intro i g hi hg
    refine br_f (nI_ge (b := 24) (by omega) (by omega)) ⟨vp_in_nI (by omega) (by omega), ?_⟩
    rw [nb_cl (by omega)]
    have keep : (yused i = 0 ∨ ¬ ∃ k, tr_B po e k i) → ∀ j, bt g j = true ↔ j < i + 1 ∧ yused j ≠ 0 ∧ ∃ i, tr_B po e i j := by
      intro hn j
      rw [hg j]
      constructor
      · rintro ⟨a, b⟩; exact ⟨by omega, b⟩
      · rintro ⟨a, b, c⟩
        refine ⟨?_, b, c⟩
        by_cases q : j = i
        · rw [q] at b c
          rcases hn with hn | hn
          · exact absurd hn b
          · exact absurd c hn
        · omega
    by_cases hu : yused i = 0
    · exact br_t hu (nm_r (nI_1 i) (ih (i + 1) g (by omega) (keep (Or.inl hu))))
    · refine br_f hu ?_
      refine sy_below hI hpp he hu (fun hB => ?_) (fun hB => ?_)
      · refine br_f nb_10 (nm_e (nm_r (nI_1 i) (ih (i + 1) _ (by omega) ?_)))
        intro j
        rw [bb_orI, bb_sI (by omega), hg j]
        constructor
        · rintro (⟨a, b⟩ | a)
          · exact ⟨by omega, b⟩
          · rw [a]; exact ⟨by omega, hu, hB⟩
        · rintro ⟨a, b⟩
          by_cases q : j = i
          · exact Or.inr q
          · exact Or.inl ⟨by omega, b⟩
      · exact br_t rfl (nm_r (nI_1 i) (ih (i + 1) g (by omega) (keep (Or.inr hB))))
end
theorem i_vc_remove {k : Nat} {u : SX} {v : SY} (I : i_Rel k u v) (hk : k + 5 ≤ 2560) (v1 : Int32) : wpX_remove (fun r u' => wpY_remove (fun r' v' => r' = r ∧ i_Rel (k + 5) u' v') v v1) u v1 := by
  refine i_el I (P := fun u v => wpX_remove (fun r u' => wpY_remove (fun r' v' => r' = r ∧ i_Rel (k + 5) u' v') v v1) u v1) ?_
  intro d latestPlace positions fragments elementCount draftKind draftValue weights tokenAt fragmentBegin fragmentFirst fragmentLast fragmentEmpty reachedWith follow bearing accepting kindOfType leastOf greatestOf listedCount listedValue attributeUse attributeType typeOfName inUse nameOf parentOf kidCount kids hasValue valueOf hasAttribute attributeValue walked waiting yroot yrowLength yfirst youts ytop ykind ywith ysize yparent yrow yends ylack yshortest youtKind youtWith ywork yworkWith yweight yfollow yfirsts ylasts ybare ymet ynameAt ytokenAt ytodo hD hT hM hE
  unfold wpX_remove
  rcases el_cs inUse v1 with hv | ⟨e, he, rfl, hu⟩
  · refine sx_elem0 hv ?_
    refine br_t rfl ?_
    unfold wpY_remove
    refine sy_no1 hv ?_
    refine br_f nb_10 ?_
    exact ⟨rfl, i_mk hD hT hM hE⟩
  · refine sx_elem1 he hu ?_
    refine br_f nb_10 ?_
    obtain ⟨hec, hroot, hb, po, c, ch, g, rk, hE1⟩ := hE
    obtain ⟨a1, a2, a3, a4, hI⟩ := hE1
    have hX : ∀ x, x < 24 → inUse x ≠ 0 → parentOf x = rl_p (po x) := fun x h1 h2 => (a3 x h1 h2).2.1
    have hY : ∀ x, x < 24 → inUse x ≠ 0 → yparent x = rl_p (po x) := fun x h1 h2 => (a3 x h1 h2).2.2
    have u0 : inUse 0 ≠ 0 := hI.2.2.1 e hu
    have hr : yroot = 0 := by rw [hroot, if_neg u0]
    -- what follows when e hangs nowhere: kids as in c', ch', the rest as it was
    have main : ∀ (c' : Nat → Nat) (ch' : Nat → Nat → Nat) (pp' ct' kc' : Nat → Int32), tr_F (fun x => inUse x ≠ 0) po c' ch' rk → (∀ x i, inUse x ≠ 0 → i < c' x → ch' x i ≠ e) → (∀ x, inUse x ≠ 0 → x ≠ e → x = 0 ∨ tr_PK (fun x => inUse x ≠ 0) po c' ch' x) → (∀ x, x ≠ e → pp' x = parentOf x) → (∀ x, inUse x ≠ 0 → ct' x = nI (c' x)) → (∀ x i, inUse x ≠ 0 → i < c' x → kc' (24 * x + i) = nI (ch' x i)) → (∀ j, j < 600 → vp_nar .byte (kc' j) = kc' j) →
        (∀ {post : Int32 → SY → Prop}, (∃ n19, wY_remove_19 post (nI e) latestPlace yroot yrowLength yfirst youts ytop ykind ywith ysize kindOfType listedCount attributeUse attributeType leastOf greatestOf listedValue typeOfName inUse hasValue hasAttribute nameOf yparent kc' ct' yrow valueOf attributeValue yends ylack yshortest youtKind youtWith ywork yworkWith yweight yfollow yfirsts ylasts ybare ymet ynameAt ytokenAt ytodo n19 0 (nI 0)) → wpY_remove post (latestPlace, yroot, yrowLength, yfirst, youts, ytop, ykind, ywith, ysize, kindOfType, listedCount, attributeUse, attributeType, leastOf, greatestOf, listedValue, typeOfName, inUse, hasValue, hasAttribute, nameOf, yparent, kids, kidCount, yrow, valueOf, attributeValue, yends, ylack, yshortest, youtKind, youtWith, ywork, yworkWith, yweight, yfollow, yfirsts, ylasts, ybare, ymet, ynameAt, ytokenAt, ytodo) (nI e)) →
        ∀ (ws : List Nat) (wk wa : Nat → Int32), tr_V (fun x => inUse x ≠ 0) po c' ch' rk e ws [] → wk_R wk ws → ∃ n23, wX_remove_23 (fun r u' => wpY_remove (fun r' v' => r' = r ∧ i_Rel (k + 5) u' v') (latestPlace, yroot, yrowLength, yfirst, youts, ytop, ykind, ywith, ysize, kindOfType, listedCount, attributeUse, attributeType, leastOf, greatestOf, listedValue, typeOfName, inUse, hasValue, hasAttribute, nameOf, yparent, kids, kidCount, yrow, valueOf, attributeValue, yends, ylack, yshortest, youtKind, youtWith, ywork, yworkWith, yweight, yfollow, yfirsts, ylasts, ybare, ymet, ynameAt, ytokenAt, ytodo) (nI e)) (nI ws.length) (nI d) latestPlace positions fragments elementCount n23 0 draftKind draftValue weights tokenAt fragmentBegin fragmentFirst fragmentLast fragmentEmpty reachedWith follow bearing accepting kindOfType leastOf greatestOf listedCount listedValue attributeUse attributeType typeOfName inUse nameOf pp' ct' kc' hasValue valueOf hasAttribute attributeValue wk wa := by
      intro c' ch' pp' ct' kc' hF hno hPK hpp hct hkc hb' hYY ws wk wa hV hwk
      have huse : ∀ x, x ∈ ws → inUse x ≠ 0 := fun x hx => (hV.2.1 x (by rw [List.append_nil]; exact hx)).1
      have hin : ∀ x, x ∈ ws ↔ inUse x ≠ 0 ∧ ∃ j, tr_B po e j x := by
        intro x
        constructor
        · intro hx
          exact ⟨huse x hx, tr_V_in (fun x y h1 h2 h3 => (tr_up hI h1 h3).2.1) hV (rk x) x (Nat.le_refl _) hx⟩
        · rintro ⟨h1, j, h2⟩
          refine tr_V_out (fun x y h1 h2 h3 => ⟨(tr_up hI h1 h3).1, fun _ => ?_⟩) hV j x h1 h2
          rcases hPK x h1 h2 with q | ⟨p, i, b1, b2, b3, b4⟩
          · rw [q, hI.2.2.2 u0] at h3; cases h3
          · rw [b1] at h3
            obtain rfl := Option.some.inj h3
            exact ⟨i, b3, b4⟩
      have h24 : ∀ x, x ∈ ws → x < 24 := fun x hx => hF.1 x (huse x hx)
      have hnd : ws.Nodup := by have := hV.1; rw [List.append_nil] at this; exact this
      have hl : ws.length ≤ 24 := tr_pig 24 ws hnd h24
      have hcb := cb_mem 24 ws hnd h24
      have hrm := rm_cn (iu := inUse) huse 24
      have hcn := tr_cn_le inUse 24
      have hE2 : ∀ rt : Int32, rt = (if rm_l inUse ws 0 = 0 then -1 else 0) → rl_E (nI (tr_cn (rm_l inUse ws) 24)) rt (rm_l inUse ws) nameOf pp' ct' kc' yparent := by
        intro rt hrt
        have us' : ∀ x, rm_l inUse ws x ≠ 0 ↔ inUse x ≠ 0 ∧ ¬ ∃ j, tr_B po e j x := by
          intro x
          by_cases q : x ∈ ws
          · rw [show rm_l inUse ws x = 0 from if_pos q]
            exact ⟨fun h => absurd rfl h, fun h => absurd ((hin x).mp q).2 h.2⟩
          · rw [show rm_l inUse ws x = inUse x from if_neg q]
            exact ⟨fun h => ⟨h, fun h2 => q ((hin x).mpr ⟨h, h2⟩)⟩, fun h => h.1⟩
        refine ⟨rfl, hrt, hb', po, c', ch', g, rk, fun x => ?_, a2, fun x hx hux => ?_, fun x i hx hux hi => hkc x i ((us' x).mp hux).1 hi, tr_rem hI hF hno hPK us'⟩
        · by_cases q : x ∈ ws
          · exact Or.inl (if_pos q)
          · rw [show rm_l inUse ws x = inUse x from if_neg q]; exact a1 x
        · obtain ⟨h1, h2⟩ := (us' x).mp hux
          have ne : x ≠ e := fun q => h2 ⟨0, q⟩
          exact ⟨hct x h1, by rw [hpp x ne]; exact hX x hx h1, hY x hx h1⟩
      have R := sx_rem23 (post := fun r u' => wpY_remove (fun r' v' => r' = r ∧ i_Rel (k + 5) u' v') (latestPlace, yroot, yrowLength, yfirst, youts, ytop, ykind, ywith, ysize, kindOfType, listedCount, attributeUse, attributeType, leastOf, greatestOf, listedValue, typeOfName, inUse, hasValue, hasAttribute, nameOf, yparent, kids, kidCount, yrow, valueOf, attributeValue, yends, ylack, yshortest, youtKind, youtWith, ywork, yworkWith, yweight, yfollow, yfirsts, ylasts, ybare, ymet, ynameAt, ytokenAt, ytodo) (nI e)) (ec' := nI (tr_cn (rm_l inUse ws) 24)) (drafted := nI d) (latestPlace := latestPlace) (positions := positions) (fragments := fragments) (elementCount := elementCount) (draftKind := draftKind) (draftValue := draftValue) (weights := weights) (tokenAt := tokenAt) (fragmentBegin := fragmentBegin) (fragmentFirst := fragmentFirst) (fragmentLast := fragmentLast) (fragmentEmpty := fragmentEmpty) (reachedWith := reachedWith) (follow := follow) (bearing := bearing) (accepting := accepting) (kindOfType := kindOfType) (leastOf := leastOf) (greatestOf := greatestOf) (listedCount := listedCount) (listedValue := listedValue) (attributeUse := attributeUse) (attributeType := attributeType) (typeOfName := typeOfName) (inUse := inUse) (nameOf := nameOf) (parentOf := pp') (kidCount := ct') (kids := kc') (hasValue := hasValue) (valueOf := valueOf) (hasAttribute := hasAttribute) (attributeValue := attributeValue) (walked := wk) (waiting := wa) hwk h24 hl (by rw [hec, pk_sub (by omega)]; congr 1; omega) (by
        refine hYY ⟨25, sy_rem19 hI hY he (fun gg hgg => ?_) 24 0 0 (by omega) (fun j => by rw [b_0]; exact ⟨fun h => absurd h Bool.false_ne_true, fun h => by omega⟩)⟩
        have q1 : ∀ j, (bt gg j = true) ↔ j ∈ ws := fun j => by
          rw [hgg j, hin j]
          exact ⟨fun h => h.2, fun h => ⟨hI.1.1 j h.1, h⟩⟩
        have q2 : rm_b inUse gg 24 = rm_l inUse ws := by
          funext j
          unfold rm_b rm_l
          by_cases q : j ∈ ws
          · rw [if_pos q, if_pos ⟨h24 j q, (q1 j).mpr q⟩]
          · rw [if_neg q, if_neg (fun h => q ((q1 j).mp h.2))]
        have q3 : cb_n (bt gg) 24 = ws.length := by
          rw [← hcb]
          refine cb_cg 24 (fun i _ => ?_)
          exact Bool.eq_iff_iff.mpr (by rw [decide_eq_true_iff]; exact q1 i)
        rw [q2, q3]
        refine ⟨fun h => ⟨rfl, i_mk hD hT hM (hE2 _ ?_)⟩, fun h => ⟨rfl, i_mk hD hT hM (hE2 _ ?_)⟩⟩
        · rw [hr] at h
          have e0 : e = 0 := (nI_eq (b := 0) (by omega) (by omega)).mp h
          have m0 : 0 ∈ ws := (hin 0).mpr ⟨u0, 0, e0.symm⟩
          rw [if_pos (show rm_l inUse ws 0 = 0 from if_pos m0)]
        · rw [hr] at h
          have e0 : 0 ≠ e := fun q => h (by rw [← q]; rfl)
          have m0 : 0 ∉ ws := fun q => tr_B_no e0 (hI.2.2.2 u0) ((hin 0).mp q).2
          rw [show rm_l inUse ws 0 = inUse 0 from if_neg m0, if_neg u0, hr]) ws.length 0 (by omega)
      rw [List.take_zero, rm_l_0] at R
      exact ⟨_, R⟩
    cases hp : po e with
    | none =>
      have hPK : ∀ x, inUse x ≠ 0 → x ≠ e → x = 0 ∨ tr_PK (fun x => inUse x ≠ 0) po c ch x := fun x hx _ => hI.2.1 x hx
      refine sx_detach0 he (by rw [hX e he hu, hp]; rfl) ?_
      refine sx_walk (top := e) (Inv := fun _ _ => True) hI.1 hu (fun x hx => (a3 x (hI.1.1 x hx) hx).1) (fun x i hx hi => a4 x i (hI.1.1 x hx) hx hi) (fun _ _ _ _ _ => trivial) trivial (fun ws wk wa hV hwk _ => ?_)
      refine main c ch parentOf kidCount kids hI.1 (fun x i hx hi q => ?_) hPK (fun _ _ => rfl) (fun x hx => (a3 x (hI.1.1 x hx) hx).1) (fun x i hx hi => a4 x i (hI.1.1 x hx) hx hi) hb (fun h => ?_) ws wk wa hV hwk
      · have := (hI.1.2.1 x i hx hi).2.1
        rw [q, hp] at this
        cases this
      · unfold wpY_remove
        refine sy_no0 he hu ?_
        refine br_t rfl ?_
        exact sy_take0 he (by rw [hY e he hu, hp]; rfl) h
    | some q =>
      obtain ⟨uq, rq, s, hs, hch⟩ := tr_up hI hu hp
      have hq24 := hI.1.1 q uq
      have hq23 := tr_F_c hI.1 uq
      have cq : kidCount q = nI (c q) := (a3 q hq24 uq).1
      have hkid := rl_kid hI.1 a4 uq hs hch
      have hF' := tr_del (q := q) (s := s) hI.1
      have hct : ∀ x, inUse x ≠ 0 → upd kidCount q (nI (c q - 1)) x = nI (tr_dc c q x) := by
        intro x hx
        unfold tr_dc
        by_cases r : x = q
        · rw [r, pk_us, if_pos rfl]
        · rw [pk_un r, if_neg r]; exact (a3 x (hI.1.1 x hx) hx).1
      have hkc : ∀ x i, inUse x ≠ 0 → i < tr_dc c q x → kp_del kids q s (c q) (24 * x + i) = nI (tr_dk ch q s x i) := fun x i hx hi => kp_del_ok a4 (fun x _ hx => tr_F_c hI.1 hx) hq24 uq x i (hI.1.1 x hx) hx hi
      refine sx_detach hq24 he hq23 hs (by rw [hX e he hu, hp]; rfl) cq hkid ?_
      refine sx_walk (top := e) (Inv := fun _ _ => True) (kidCount := upd kidCount q (nI (c q - 1))) (kids := kp_del kids q s (c q)) hF' hu hct hkc (fun _ _ _ _ _ => trivial) trivial (fun ws wk wa hV hwk _ => ?_)
      refine main (tr_dc c q) (tr_dk ch q s) (upd parentOf e (-1)) (upd kidCount q (nI (c q - 1))) (kp_del kids q s (c q)) hF' (tr_del_no hI.1 uq hs hch) (fun x hx hxe => ?_) (fun x hx => pk_un hx) hct hkc (kp_del_b hb (by omega)) (fun h => ?_) ws wk wa hV hwk
      · rcases hI.2.1 x hx with h | h
        · exact Or.inl h
        · exact Or.inr (tr_PK_del hs hch hxe h)
      · unfold wpY_remove
        refine sy_no0 he hu ?_
        refine br_t rfl ?_
        exact sy_take hq24 he hq23 hs (by rw [hY e he hu, hp]; rfl) cq hb hkid h
