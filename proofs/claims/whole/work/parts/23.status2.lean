/-! ===== rows of names, status on both sides ===== -/
section
variable {drafted latestPlace positions fragments elementCount : Int32} {draftKind draftValue weights tokenAt fragmentBegin fragmentFirst fragmentLast fragmentEmpty reachedWith follow bearing accepting kindOfType leastOf greatestOf listedCount listedValue attributeUse attributeType typeOfName inUse nameOf parentOf kidCount kids hasValue valueOf hasAttribute attributeValue walked waiting : Nat → Int32} {yplace yroot yrowLength yfirst youts ytop : Int32} {ykind ywith ysize ysort ymany yuse ytypeOf yleast ygreatest ylisted ytypeOfName yused yvalued ygiven yname yparent ychildren ycount yrow yvalue yattributes yends ylack yshortest youtKind youtWith ywork yworkWith yweight yfollow yfirsts ylasts ybare ymet ynameAt ytokenAt ytodo : Nat → Int32}
theorem sy_row12 {post : SY → Prop} {e n : Nat} {g : Nat → Nat} {ch : Nat → Nat → Nat} (he : e < 24) (hn : n ≤ 24) (hk : ∀ i, i < n → ychildren (24 * e + i) = nI (ch e i) ∧ ch e i < 24) (hg : ∀ x, x < 24 → yname x = nI (g x) ∧ g x < 6) (h : ∀ row : Nat → Int32, (∀ i, i < n → row i = nI (kn_w g ch e i)) → post (yplace, yroot, nI n, yfirst, youts, ytop, ykind, ywith, ysize, ysort, ymany, yuse, ytypeOf, yleast, ygreatest, ylisted, ytypeOfName, yused, yvalued, ygiven, yname, yparent, ychildren, ycount, row, yvalue, yattributes, yends, ylack, yshortest, youtKind, youtWith, ywork, yworkWith, yweight, yfollow, yfirsts, ylasts, ybare, ymet, ynameAt, ytokenAt, ytodo)) : ∀ (m i : Nat) (row : Nat → Int32), i + m = n → (∀ j, j < i → row j = nI (kn_w g ch e j)) → wY_rowOf_12 post (nI e) yplace yroot (nI n) yfirst youts ytop (m + 1) (nI i) ykind ywith ysize ysort ymany yuse ytypeOf yleast ygreatest ylisted ytypeOfName yused yvalued ygiven yname yparent ychildren ycount row yvalue yattributes yends ylack yshortest youtKind youtWith ywork yworkWith yweight yfollow yfirsts ylasts ybare ymet ynameAt ytokenAt ytodo := by
  intro m
  induction m with
  | zero =>
    intro i row hi hr
    obtain rfl : i = n := by omega
    exact br_t (nI_le (Nat.le_refl _) (by omega)) (h row hr)
  | succ m ih =>
    intro i row hi hr
    obtain ⟨k1, k2⟩ := hk i (by omega)
    obtain ⟨g1, g2⟩ := hg _ k2
    refine br_f (nI_ge (by omega) (by omega)) ?_
    rw [nb_24m, nb_cl (n := 24 * e + i) (by omega), k1, nb_cl (n := ch e i) (by omega), g1]
    refine ⟨vp_in_nI (by omega) (by omega), vp_in_nI k2 (by omega), vp_in_nI (by omega) (by omega), nm_r (e' := upd row i (nI (g (ch e i)))) (by rw [nb_cl (by omega), nb_vb (by omega)]) (nm_r (nI_1 i) (ih (i + 1) _ (by omega) (fun j hj => ?_)))⟩
    by_cases q : j = i
    · rw [q, pk_us]; rfl
    · rw [pk_un q]; exact hr j (by omega)
theorem sy_rowOf {post : SY → Prop} {e n : Nat} {g : Nat → Nat} {ch : Nat → Nat → Nat} (he : e < 24) (hn : n ≤ 24) (hct : ycount e = nI n) (hk : ∀ i, i < n → ychildren (24 * e + i) = nI (ch e i) ∧ ch e i < 24) (hg : ∀ x, x < 24 → yname x = nI (g x) ∧ g x < 6) (h : ∀ row : Nat → Int32, (∀ i, i < n → row i = nI (kn_w g ch e i)) → post (yplace, yroot, nI n, yfirst, youts, ytop, ykind, ywith, ysize, ysort, ymany, yuse, ytypeOf, yleast, ygreatest, ylisted, ytypeOfName, yused, yvalued, ygiven, yname, yparent, ychildren, ycount, row, yvalue, yattributes, yends, ylack, yshortest, youtKind, youtWith, ywork, yworkWith, yweight, yfollow, yfirsts, ylasts, ybare, ymet, ynameAt, ytokenAt, ytodo)) : wpY_rowOf post (yplace, yroot, yrowLength, yfirst, youts, ytop, ykind, ywith, ysize, ysort, ymany, yuse, ytypeOf, yleast, ygreatest, ylisted, ytypeOfName, yused, yvalued, ygiven, yname, yparent, ychildren, ycount, yrow, yvalue, yattributes, yends, ylack, yshortest, youtKind, youtWith, ywork, yworkWith, yweight, yfollow, yfirsts, ylasts, ybare, ymet, ynameAt, ytokenAt, ytodo) (nI e) :=
  ⟨vp_in_nI he (by omega), nm_r (e' := nI n) (by rw [nb_cl (by omega), hct]) ⟨n + 1, sy_row12 he hn hk hg h n 0 yrow (by omega) (fun j hj => by omega)⟩⟩
theorem sy_isWord {post : Int32 → SY → Prop} {t n : Nat} {w kd vl : Nat → Nat} {R : ex_T} (ht : t < 6) (hn : n ≤ 24) (hrow : ∀ i, i < n → yrow i = nI (w i) ∧ w i < 6) (hs : ysize t = nI (ex_n R)) (h16 : ex_n R ≤ 16) (hK : rl_K ykind ywith (16 * t) (ex_n R) kd vl) (hS : ex_S kd vl R 0) (hW : ex_W R) (hw : ex_w R ≤ 30)
    (h1 : ex_L vl R (dp_sl w n 0) → ∀ (f : Int32) (sh en lk : Nat → Int32), post 1 (yplace, yroot, nI n, f, youts, ytop, ykind, ywith, ysize, ysort, ymany, yuse, ytypeOf, yleast, ygreatest, ylisted, ytypeOfName, yused, yvalued, ygiven, yname, yparent, ychildren, ycount, yrow, yvalue, yattributes, en, lk, sh, youtKind, youtWith, ywork, yworkWith, yweight, yfollow, yfirsts, ylasts, ybare, ymet, ynameAt, ytokenAt, ytodo)) (h0 : ¬ ex_L vl R (dp_sl w n 0) → ∀ (f : Int32) (sh en lk : Nat → Int32), post 0 (yplace, yroot, nI n, f, youts, ytop, ykind, ywith, ysize, ysort, ymany, yuse, ytypeOf, yleast, ygreatest, ylisted, ytypeOfName, yused, yvalued, ygiven, yname, yparent, ychildren, ycount, yrow, yvalue, yattributes, en, lk, sh, youtKind, youtWith, ywork, yworkWith, yweight, yfollow, yfirsts, ylasts, ybare, ymet, ynameAt, ytokenAt, ytodo)) : wpY_isWord post (yplace, yroot, nI n, yfirst, youts, ytop, ykind, ywith, ysize, ysort, ymany, yuse, ytypeOf, yleast, ygreatest, ylisted, ytypeOfName, yused, yvalued, ygiven, yname, yparent, ychildren, ycount, yrow, yvalue, yattributes, yends, ylack, yshortest, youtKind, youtWith, ywork, yworkWith, yweight, yfollow, yfirsts, ylasts, ybare, ymet, ynameAt, ytokenAt, ytodo) (nI t) := by
  unfold wpY_isWord
  refine sy_examine (w := w) ht hn hrow hs h16 hK hS hW hw (fun f sh en lk x hb _ _ => ?_)
  cases hv : bt (en 0) n with
  | false => exact br_t ((bb_t (en 0) (by omega)).mpr hv) (h0 (fun hL => by rw [hb.mpr hL] at hv; cases hv) f sh en lk)
  | true => exact br_f ((bb_t' (en 0) (by omega)).mpr hv) (h1 (hb.mp hv) f sh en lk)
end
section
variable {drafted latestPlace positions fragments elementCount : Int32} {draftKind draftValue weights tokenAt fragmentBegin fragmentFirst fragmentLast fragmentEmpty reachedWith follow bearing accepting kindOfType leastOf greatestOf listedCount listedValue attributeUse attributeType typeOfName inUse nameOf parentOf kidCount kids hasValue valueOf hasAttribute attributeValue walked waiting : Nat → Int32} {yroot yrowLength yfirst youts ytop : Int32} {ykind ywith ysize yparent yrow yends ylack yshortest youtKind youtWith ywork yworkWith yweight yfollow yfirsts ylasts ybare ymet ynameAt ytokenAt ytodo : Nat → Int32}
theorem ab_both {t e s : Nat} (hT : rl_T kindOfType listedCount attributeUse attributeType typeOfName) (ht : t < 6) (he : e < 24) (hs : kindOfType t = nI s) (hs0 : s = 1 ∨ s = 2) : ∀ m i, i + m = 4 → ∃ r : Int32, (∀ post : Int32 → Prop, post r → wX_statusOf_52 post (nI e) (nI t) drafted latestPlace positions fragments elementCount draftKind draftValue weights tokenAt fragmentBegin fragmentFirst fragmentLast fragmentEmpty reachedWith follow bearing accepting kindOfType leastOf greatestOf listedCount listedValue attributeUse attributeType typeOfName inUse nameOf parentOf kidCount kids hasValue valueOf hasAttribute attributeValue walked waiting (m + 1) (nI i)) ∧ ∀ (yrowLength yfirst : Int32) (yrow yends ylack yshortest : Nat → Int32) (post : Int32 → SY → Prop), post r (latestPlace, yroot, yrowLength, yfirst, youts, ytop, ykind, ywith, ysize, kindOfType, listedCount, attributeUse, attributeType, leastOf, greatestOf, listedValue, typeOfName, inUse, hasValue, hasAttribute, nameOf, yparent, kids, kidCount, yrow, valueOf, attributeValue, yends, ylack, yshortest, youtKind, youtWith, ywork, yworkWith, yweight, yfollow, yfirsts, ylasts, ybare, ymet, ynameAt, ytokenAt, ytodo) → wY_status_113 post (nI e) (nI t) latestPlace yroot yrowLength yfirst youts ytop ykind ywith ysize kindOfType listedCount attributeUse attributeType leastOf greatestOf listedValue typeOfName inUse hasValue hasAttribute nameOf yparent kids kidCount yrow valueOf attributeValue yends ylack yshortest youtKind youtWith ywork yworkWith yweight yfollow yfirsts ylasts ybare ymet ynameAt ytokenAt ytodo (m + 1) (nI i) := by
  intro m
  induction m with
  | zero =>
    intro i hi
    obtain rfl : i = 4 := by omega
    exact ⟨0, fun post p => br_t (by decide) p, fun yrowLength yfirst yrow yends ylack yshortest post p => br_t (by decide) p⟩
  | succ m ih =>
    intro i hi
    have n4 : ¬ (4 : Int32) ≤ nI i := nI_ge (b := 4) (by omega) (by omega)
    have ab : ∃ r r' : Int32, ((r = 0 ∧ r' = 1) ∨ (r = 1 ∧ r' = 0)) ∧ (∀ post : Int32 → Prop, post r → wpX_attributeFits post (drafted, latestPlace, positions, fragments, elementCount, draftKind, draftValue, weights, tokenAt, fragmentBegin, fragmentFirst, fragmentLast, fragmentEmpty, reachedWith, follow, bearing, accepting, kindOfType, leastOf, greatestOf, listedCount, listedValue, attributeUse, attributeType, typeOfName, inUse, nameOf, parentOf, kidCount, kids, hasValue, valueOf, hasAttribute, attributeValue, walked, waiting) (nI e) (nI t) (nI i)) ∧ ∀ (yrowLength yfirst : Int32) (yrow yends ylack yshortest : Nat → Int32) (post : Int32 → Prop), post r' → wpY_wrong post (latestPlace, yroot, yrowLength, yfirst, youts, ytop, ykind, ywith, ysize, kindOfType, listedCount, attributeUse, attributeType, leastOf, greatestOf, listedValue, typeOfName, inUse, hasValue, hasAttribute, nameOf, yparent, kids, kidCount, yrow, valueOf, attributeValue, yends, ylack, yshortest, youtKind, youtWith, ywork, yworkWith, yweight, yfollow, yfirsts, ylasts, ybare, ymet, ynameAt, ytokenAt, ytodo) (nI e) (nI t) (nI i) := at_both hT ht he (by omega) hs hs0
    obtain ⟨r, r', hr, rX, rY⟩ := ab
    rcases hr with ⟨rfl, rfl⟩ | ⟨rfl, rfl⟩
    · exact ⟨4, fun post p => br_f n4 (rX _ (br_t rfl p)), fun yrowLength yfirst yrow yends ylack yshortest post p => br_f n4 (rY _ _ _ _ _ _ _ (br_f nb_10 p))⟩
    · obtain ⟨r, iX, iY⟩ := ih (i + 1) (by omega)
      exact ⟨r, fun post p => br_f n4 (rX _ (br_f nb_10 (nm_r (nI_1 i) (iX post p)))), fun yrowLength yfirst yrow yends ylack yshortest post p => br_f n4 (rY _ _ _ _ _ _ _ (br_t rfl (nm_r (nI_1 i) (iY _ _ _ _ _ _ post p))))⟩
theorem st_both {e : Nat} {po : Nat → Option Nat} {c : Nat → Nat} {ch : Nat → Nat → Nat} {g rk : Nat → Nat} (hT : rl_T kindOfType listedCount attributeUse attributeType typeOfName) (hM : rl_M kindOfType follow bearing accepting ykind ywith ysize) (hE : rl_E1 inUse nameOf parentOf kidCount kids yparent po c ch g rk) (he : e < 24) (hu : inUse e ≠ 0) : ∃ r : Int32, (∀ post : Int32 → Prop, post r → wpX_statusOf post (drafted, latestPlace, positions, fragments, elementCount, draftKind, draftValue, weights, tokenAt, fragmentBegin, fragmentFirst, fragmentLast, fragmentEmpty, reachedWith, follow, bearing, accepting, kindOfType, leastOf, greatestOf, listedCount, listedValue, attributeUse, attributeType, typeOfName, inUse, nameOf, parentOf, kidCount, kids, hasValue, valueOf, hasAttribute, attributeValue, walked, waiting) (nI e)) ∧ ∀ (yrowLength yfirst : Int32) (yrow yends ylack yshortest : Nat → Int32) (post : Int32 → SY → Prop), (∀ (yrowLength yfirst : Int32) (yrow yends ylack yshortest : Nat → Int32), post r (latestPlace, yroot, yrowLength, yfirst, youts, ytop, ykind, ywith, ysize, kindOfType, listedCount, attributeUse, attributeType, leastOf, greatestOf, listedValue, typeOfName, inUse, hasValue, hasAttribute, nameOf, yparent, kids, kidCount, yrow, valueOf, attributeValue, yends, ylack, yshortest, youtKind, youtWith, ywork, yworkWith, yweight, yfollow, yfirsts, ylasts, ybare, ymet, ynameAt, ytokenAt, ytodo)) → wpY_status post (latestPlace, yroot, yrowLength, yfirst, youts, ytop, ykind, ywith, ysize, kindOfType, listedCount, attributeUse, attributeType, leastOf, greatestOf, listedValue, typeOfName, inUse, hasValue, hasAttribute, nameOf, yparent, kids, kidCount, yrow, valueOf, attributeValue, yends, ylack, yshortest, youtKind, youtWith, ywork, yworkWith, yweight, yfollow, yfirsts, ylasts, ybare, ymet, ynameAt, ytokenAt, ytodo) (nI e) := by
  obtain ⟨a1, a2, a3, a4, hI⟩ := hE
  have ve : vp_in (nI e) 24 := vp_in_nI he (by omega)
  have ee : (nI e).toNatClampNeg = e := nb_cl (by omega)
  obtain ⟨g1, g2⟩ := a2 e he
  have en : nameOf (nI e).toNatClampNeg = nI (g e) := by rw [ee]; exact g1
  have vn : vp_in (nI (g e)) 6 := vp_in_nI g2 (by omega)
  have cn : (nI (g e)).toNatClampNeg = g e := nb_cl (by omega)
  have h23 := tr_F_c hI.1 hu
  have ec : kidCount (nI e).toNatClampNeg = nI (c e) := by rw [ee]; exact (a3 e he hu).1
  have hk : ∀ i, i < c e → kids (24 * e + i) = nI (ch e i) ∧ ch e i < 24 := fun i hi => ⟨a4 e i he hu hi, hI.1.1 _ (hI.1.2.1 e i hu hi).1⟩
  rcases hT.2.2.2 (g e) g2 with tn | ⟨t, ht, tn⟩
  · -- no type
    refine ⟨1, fun post p => ⟨ve, by rw [en]; exact ⟨vn, nm_r (e' := -1) (by rw [cn]; exact tn) (br_t rfl p)⟩⟩, fun yrowLength yfirst yrow yends ylack yshortest post p => ?_⟩
    unfold wpY_status
    refine sy_no0 he hu ?_
    refine br_t rfl ?_
    refine ⟨ve, ?_⟩
    rw [en]
    exact ⟨vn, nm_r (e' := -1) (by rw [cn]; exact tn) (br_t (by decide) (br_f (by decide) (p _ _ _ _ _ _)))⟩
  · obtain ⟨s, hs3, hs⟩ := hT.1 t ht
    have vt : vp_in (nI t) 6 := vp_in_nI ht (by omega)
    have ct : (nI t).toNatClampNeg = t := nb_cl (by omega)
    have es : kindOfType (nI t).toNatClampNeg = nI s := by rw [ct]; exact hs
    have nm1 : ¬ nI t = -1 := nb_nm (by omega)
    by_cases s0 : s = 0
    · subst s0
      refine ⟨1, fun post p => ⟨ve, by rw [en]; exact ⟨vn, nm_r (e' := nI t) (by rw [cn]; exact tn) (br_f nm1 ⟨vt, br_t es p⟩)⟩⟩, fun yrowLength yfirst yrow yends ylack yshortest post p => ?_⟩
      unfold wpY_status
      refine sy_no0 he hu ?_
      refine br_t rfl ?_
      refine ⟨ve, ?_⟩
      rw [en]
      exact ⟨vn, nm_r (e' := nI t) (by rw [cn]; exact tn) (br_f (nI_pos (by omega)) ⟨vt, br_t es (br_f (by decide) (p _ _ _ _ _ _))⟩)⟩
    · have ns : ¬ kindOfType (nI t).toNatClampNeg = 0 := by rw [es]; exact nI_ne0 (by omega) (by omega)
      have X0 : ∀ {post : Int32 → Prop}, wpX_contentFits (fun r_7 => (r_7 = 0 → post 2) ∧ (¬ r_7 = 0 → wpX_valueFits (fun r_45 => (r_45 = 0 → post 3) ∧ (¬ r_45 = 0 → ∃ n52 : Nat, wX_statusOf_52 post (nI e) (nI t) drafted latestPlace positions fragments elementCount draftKind draftValue weights tokenAt fragmentBegin fragmentFirst fragmentLast fragmentEmpty reachedWith follow bearing accepting kindOfType leastOf greatestOf listedCount listedValue attributeUse attributeType typeOfName inUse nameOf parentOf kidCount kids hasValue valueOf hasAttribute attributeValue walked waiting n52 0)) (drafted, latestPlace, positions, fragments, elementCount, draftKind, draftValue, weights, tokenAt, fragmentBegin, fragmentFirst, fragmentLast, fragmentEmpty, reachedWith, follow, bearing, accepting, kindOfType, leastOf, greatestOf, listedCount, listedValue, attributeUse, attributeType, typeOfName, inUse, nameOf, parentOf, kidCount, kids, hasValue, valueOf, hasAttribute, attributeValue, walked, waiting) (nI e) (nI t))) (drafted, latestPlace, positions, fragments, elementCount, draftKind, draftValue, weights, tokenAt, fragmentBegin, fragmentFirst, fragmentLast, fragmentEmpty, reachedWith, follow, bearing, accepting, kindOfType, leastOf, greatestOf, listedCount, listedValue, attributeUse, attributeType, typeOfName, inUse, nameOf, parentOf, kidCount, kids, hasValue, valueOf, hasAttribute, attributeValue, walked, waiting) (nI e) (nI t) → wpX_statusOf post (drafted, latestPlace, positions, fragments, elementCount, draftKind, draftValue, weights, tokenAt, fragmentBegin, fragmentFirst, fragmentLast, fragmentEmpty, reachedWith, follow, bearing, accepting, kindOfType, leastOf, greatestOf, listedCount, listedValue, attributeUse, attributeType, typeOfName, inUse, nameOf, parentOf, kidCount, kids, hasValue, valueOf, hasAttribute, attributeValue, walked, waiting) (nI e) := fun h => ⟨ve, by rw [en]; exact ⟨vn, nm_r (e' := nI t) (by rw [cn]; exact tn) (br_f nm1 ⟨vt, br_f ns h⟩)⟩⟩
      have Y0 : ∀ {yrowLength yfirst : Int32} {yrow yends ylack yshortest : Nat → Int32} {post : Int32 → SY → Prop}, (kindOfType t = 1 → wY_status_37 post (nI e) (nI t) 1 latestPlace yroot yrowLength yfirst youts ytop ykind ywith ysize kindOfType listedCount attributeUse attributeType leastOf greatestOf listedValue typeOfName inUse hasValue hasAttribute nameOf yparent kids kidCount yrow valueOf attributeValue yends ylack yshortest youtKind youtWith ywork yworkWith yweight yfollow yfirsts ylasts ybare ymet ynameAt ytokenAt ytodo) → (¬ kindOfType t = 1 → wY_status_37 post (nI e) (nI t) 0 latestPlace yroot yrowLength yfirst youts ytop ykind ywith ysize kindOfType listedCount attributeUse attributeType leastOf greatestOf listedValue typeOfName inUse hasValue hasAttribute nameOf yparent kids kidCount yrow valueOf attributeValue yends ylack yshortest youtKind youtWith ywork yworkWith yweight yfollow yfirsts ylasts ybare ymet ynameAt ytokenAt ytodo) → wpY_status post (latestPlace, yroot, yrowLength, yfirst, youts, ytop, ykind, ywith, ysize, kindOfType, listedCount, attributeUse, attributeType, leastOf, greatestOf, listedValue, typeOfName, inUse, hasValue, hasAttribute, nameOf, yparent, kids, kidCount, yrow, valueOf, attributeValue, yends, ylack, yshortest, youtKind, youtWith, ywork, yworkWith, yweight, yfollow, yfirsts, ylasts, ybare, ymet, ynameAt, ytokenAt, ytodo) (nI e) := by
        intro yrowLength yfirst yrow yends ylack yshortest post h1 h2
        unfold wpY_status
        refine sy_no0 he hu ?_
        refine br_t rfl ?_
        refine ⟨ve, ?_⟩
        rw [en]
        refine ⟨vn, nm_r (e' := nI t) (by rw [cn]; exact tn) (br_f (nI_pos (by omega)) ⟨vt, br_f ns (br_t (nb_pos (by omega)) ⟨vt, ?_⟩)⟩)⟩
        rw [ct]
        exact br_c h1 h2
      have R0 : ∀ {yrowLength yfirst : Int32} {yrow yends ylack yshortest : Nat → Int32} {post : SY → Prop}, (∀ (yrowLength : Int32) (yrow : Nat → Int32), yrowLength = nI (c e) → (∀ i, i < c e → yrow i = nI (kn_w g ch e i)) → post (latestPlace, yroot, yrowLength, yfirst, youts, ytop, ykind, ywith, ysize, kindOfType, listedCount, attributeUse, attributeType, leastOf, greatestOf, listedValue, typeOfName, inUse, hasValue, hasAttribute, nameOf, yparent, kids, kidCount, yrow, valueOf, attributeValue, yends, ylack, yshortest, youtKind, youtWith, ywork, yworkWith, yweight, yfollow, yfirsts, ylasts, ybare, ymet, ynameAt, ytokenAt, ytodo)) → wpY_rowOf post (latestPlace, yroot, yrowLength, yfirst, youts, ytop, ykind, ywith, ysize, kindOfType, listedCount, attributeUse, attributeType, leastOf, greatestOf, listedValue, typeOfName, inUse, hasValue, hasAttribute, nameOf, yparent, kids, kidCount, yrow, valueOf, attributeValue, yends, ylack, yshortest, youtKind, youtWith, ywork, yworkWith, yweight, yfollow, yfirsts, ylasts, ybare, ymet, ynameAt, ytokenAt, ytodo) (nI e) := by
        intro yrowLength yfirst yrow yends ylack yshortest post h
        exact sy_rowOf he (by omega) (a3 e he hu).1 hk a2 (fun row hr => h _ row rfl hr)
      have ab : ∃ r : Int32, (∀ post : Int32 → Prop, post r → wX_statusOf_52 post (nI e) (nI t) drafted latestPlace positions fragments elementCount draftKind draftValue weights tokenAt fragmentBegin fragmentFirst fragmentLast fragmentEmpty reachedWith follow bearing accepting kindOfType leastOf greatestOf listedCount listedValue attributeUse attributeType typeOfName inUse nameOf parentOf kidCount kids hasValue valueOf hasAttribute attributeValue walked waiting (4 + 1) (nI 0)) ∧ ∀ (yrowLength yfirst : Int32) (yrow yends ylack yshortest : Nat → Int32) (post : Int32 → SY → Prop), post r (latestPlace, yroot, yrowLength, yfirst, youts, ytop, ykind, ywith, ysize, kindOfType, listedCount, attributeUse, attributeType, leastOf, greatestOf, listedValue, typeOfName, inUse, hasValue, hasAttribute, nameOf, yparent, kids, kidCount, yrow, valueOf, attributeValue, yends, ylack, yshortest, youtKind, youtWith, ywork, yworkWith, yweight, yfollow, yfirsts, ylasts, ybare, ymet, ynameAt, ytokenAt, ytodo) → wY_status_113 post (nI e) (nI t) latestPlace yroot yrowLength yfirst youts ytop ykind ywith ysize kindOfType listedCount attributeUse attributeType leastOf greatestOf listedValue typeOfName inUse hasValue hasAttribute nameOf yparent kids kidCount yrow valueOf attributeValue yends ylack yshortest youtKind youtWith ywork yworkWith yweight yfollow yfirsts ylasts ybare ymet ynameAt ytokenAt ytodo (4 + 1) (nI 0) := ab_both hT ht he hs (by omega) 4 0 (by omega)
      obtain ⟨rA, aX, aY⟩ := ab
      have eh : hasValue (nI e).toNatClampNeg = hasValue e := by rw [ee]
      have evo : valueOf (nI e).toNatClampNeg = valueOf e := by rw [ee]
      by_cases s1 : s = 1
      · -- SIMPLE
        subst s1
        have k1 : kindOfType t = 1 := hs
        have k1' : kindOfType (nI t).toNatClampNeg = 1 := es
        have k2' : ¬ kindOfType (nI t).toNatClampNeg = 2 := by rw [es]; decide
        have Y1 : ∀ {yrowLength yfirst : Int32} {yrow yends ylack yshortest : Nat → Int32} {post : Int32 → SY → Prop}, (∀ (yrowLength : Int32) (yrow : Nat → Int32), (c e = 0 → wY_status_69 post (nI e) (nI t) 1 latestPlace yroot yrowLength yfirst youts ytop ykind ywith ysize kindOfType listedCount attributeUse attributeType leastOf greatestOf listedValue typeOfName inUse hasValue hasAttribute nameOf yparent kids kidCount yrow valueOf attributeValue yends ylack yshortest youtKind youtWith ywork yworkWith yweight yfollow yfirsts ylasts ybare ymet ynameAt ytokenAt ytodo) ∧ (c e ≠ 0 → post 2 (latestPlace, yroot, yrowLength, yfirst, youts, ytop, ykind, ywith, ysize, kindOfType, listedCount, attributeUse, attributeType, leastOf, greatestOf, listedValue, typeOfName, inUse, hasValue, hasAttribute, nameOf, yparent, kids, kidCount, yrow, valueOf, attributeValue, yends, ylack, yshortest, youtKind, youtWith, ywork, yworkWith, yweight, yfollow, yfirsts, ylasts, ybare, ymet, ynameAt, ytokenAt, ytodo))) → wpY_status post (latestPlace, yroot, yrowLength, yfirst, youts, ytop, ykind, ywith, ysize, kindOfType, listedCount, attributeUse, attributeType, leastOf, greatestOf, listedValue, typeOfName, inUse, hasValue, hasAttribute, nameOf, yparent, kids, kidCount, yrow, valueOf, attributeValue, yends, ylack, yshortest, youtKind, youtWith, ywork, yworkWith, yweight, yfollow, yfirsts, ylasts, ybare, ymet, ynameAt, ytokenAt, ytodo) (nI e) := by
          intro yrowLength yfirst yrow yends ylack yshortest post h
          refine Y0 (fun _ => ?_) (fun q => absurd k1 q)
          unfold wY_status_37
          refine R0 (fun yrowLength yrow _ _ => ?_)
          refine br_f nb_10 ⟨ve, ?_⟩
          rw [ec]
          exact pk_le (c e) 0 (fun q => (h _ _).1 (by omega)) (fun q => (h _ _).2 (by omega))
        by_cases c0 : c e = 0
        · have XC : ∀ {post : Int32 → Prop}, post 1 → wpX_contentFits post (drafted, latestPlace, positions, fragments, elementCount, draftKind, draftValue, weights, tokenAt, fragmentBegin, fragmentFirst, fragmentLast, fragmentEmpty, reachedWith, follow, bearing, accepting, kindOfType, leastOf, greatestOf, listedCount, listedValue, attributeUse, attributeType, typeOfName, inUse, nameOf, parentOf, kidCount, kids, hasValue, valueOf, hasAttribute, attributeValue, walked, waiting) (nI e) (nI t) := fun p => ⟨vt, br_t k1' ⟨ve, br_t (by rw [ec, c0]; rfl) p⟩⟩
          by_cases hv : hasValue e = 0
          · refine ⟨3, fun post p => X0 (XC (br_f nb_10 ⟨vt, br_f k2' ⟨ve, br_t (by rw [eh]; exact hv) (br_t rfl p)⟩⟩)), fun yrowLength yfirst yrow yends ylack yshortest post p => Y1 (fun _ _ => ⟨fun _ => br_f nb_10 ⟨ve, br_t (by rw [eh]; exact hv) (p _ _ _ _ _ _)⟩, fun q => absurd c0 q⟩)⟩
          · obtain ⟨m, hm, em⟩ := hT.2.1 t ht
            have ib : ∃ r : Int32, (r = 0 ∨ r = 1) ∧ (∀ post : Int32 → Prop, post r → wpX_isOfSimple post (drafted, latestPlace, positions, fragments, elementCount, draftKind, draftValue, weights, tokenAt, fragmentBegin, fragmentFirst, fragmentLast, fragmentEmpty, reachedWith, follow, bearing, accepting, kindOfType, leastOf, greatestOf, listedCount, listedValue, attributeUse, attributeType, typeOfName, inUse, nameOf, parentOf, kidCount, kids, hasValue, valueOf, hasAttribute, attributeValue, walked, waiting) (nI t) (valueOf e)) ∧ ∀ (yrowLength yfirst : Int32) (yrow yends ylack yshortest : Nat → Int32) (post : Int32 → Prop), post r → wpY_isOf post (latestPlace, yroot, yrowLength, yfirst, youts, ytop, ykind, ywith, ysize, kindOfType, listedCount, attributeUse, attributeType, leastOf, greatestOf, listedValue, typeOfName, inUse, hasValue, hasAttribute, nameOf, yparent, kids, kidCount, yrow, valueOf, attributeValue, yends, ylack, yshortest, youtKind, youtWith, ywork, yworkWith, yweight, yfollow, yfirsts, ylasts, ybare, ymet, ynameAt, ytokenAt, ytodo) (valueOf e) (nI t) := is_both ht k1 hm em
            obtain ⟨r, hr, rX, rY⟩ := ib
            have X2 : ∀ {post : Int32 → Prop}, ((r = 0 → post 3) ∧ (¬ r = 0 → post rA)) → wpX_statusOf post (drafted, latestPlace, positions, fragments, elementCount, draftKind, draftValue, weights, tokenAt, fragmentBegin, fragmentFirst, fragmentLast, fragmentEmpty, reachedWith, follow, bearing, accepting, kindOfType, leastOf, greatestOf, listedCount, listedValue, attributeUse, attributeType, typeOfName, inUse, nameOf, parentOf, kidCount, kids, hasValue, valueOf, hasAttribute, attributeValue, walked, waiting) (nI e) := by
              intro post p
              refine X0 (XC (br_f nb_10 ⟨vt, br_f k2' ⟨ve, br_f (by rw [eh]; exact hv) ⟨ve, ?_⟩⟩⟩))
              rw [evo]
              rcases hr with rfl | rfl
              · exact rX _ (br_t rfl (br_t rfl (p.1 rfl)))
              · exact rX _ (br_f nb_10 (br_f nb_10 ⟨5, aX _ (p.2 nb_10)⟩))
            have Y2 : ∀ {yrowLength yfirst : Int32} {yrow yends ylack yshortest : Nat → Int32} {post : Int32 → SY → Prop}, ((r = 0 → ∀ (yrowLength yfirst : Int32) (yrow yends ylack yshortest : Nat → Int32), post 3 (latestPlace, yroot, yrowLength, yfirst, youts, ytop, ykind, ywith, ysize, kindOfType, listedCount, attributeUse, attributeType, leastOf, greatestOf, listedValue, typeOfName, inUse, hasValue, hasAttribute, nameOf, yparent, kids, kidCount, yrow, valueOf, attributeValue, yends, ylack, yshortest, youtKind, youtWith, ywork, yworkWith, yweight, yfollow, yfirsts, ylasts, ybare, ymet, ynameAt, ytokenAt, ytodo)) ∧ (¬ r = 0 → ∀ (yrowLength yfirst : Int32) (yrow yends ylack yshortest : Nat → Int32), post rA (latestPlace, yroot, yrowLength, yfirst, youts, ytop, ykind, ywith, ysize, kindOfType, listedCount, attributeUse, attributeType, leastOf, greatestOf, listedValue, typeOfName, inUse, hasValue, hasAttribute, nameOf, yparent, kids, kidCount, yrow, valueOf, attributeValue, yends, ylack, yshortest, youtKind, youtWith, ywork, yworkWith, yweight, yfollow, yfirsts, ylasts, ybare, ymet, ynameAt, ytokenAt, ytodo))) → wpY_status post (latestPlace, yroot, yrowLength, yfirst, youts, ytop, ykind, ywith, ysize, kindOfType, listedCount, attributeUse, attributeType, leastOf, greatestOf, listedValue, typeOfName, inUse, hasValue, hasAttribute, nameOf, yparent, kids, kidCount, yrow, valueOf, attributeValue, yends, ylack, yshortest, youtKind, youtWith, ywork, yworkWith, yweight, yfollow, yfirsts, ylasts, ybare, ymet, ynameAt, ytokenAt, ytodo) (nI e) := by
              intro yrowLength yfirst yrow yends ylack yshortest post p
              refine Y1 (fun _ _ => ⟨fun _ => br_f nb_10 ⟨ve, br_f (by rw [eh]; exact hv) ⟨ve, ?_⟩⟩, fun q => absurd c0 q⟩)
              rw [evo]
              rcases hr with rfl | rfl
              · exact rY _ _ _ _ _ _ _ (br_t rfl (p.1 rfl _ _ _ _ _ _))
              · exact rY _ _ _ _ _ _ _ (br_f nb_10 ⟨5, aY _ _ _ _ _ _ _ (p.2 nb_10 _ _ _ _ _ _)⟩)
            by_cases r0 : r = 0
            · exact ⟨3, fun post p => X2 ⟨fun _ => p, fun q => absurd r0 q⟩, fun yrowLength yfirst yrow yends ylack yshortest post p => Y2 ⟨fun _ => p, fun q => absurd r0 q⟩⟩
            · exact ⟨rA, fun post p => X2 ⟨fun q => absurd q r0, fun _ => p⟩, fun yrowLength yfirst yrow yends ylack yshortest post p => Y2 ⟨fun q => absurd q r0, fun _ => p⟩⟩
        · exact ⟨2, fun post p => X0 ⟨vt, br_t k1' ⟨ve, br_f (by rw [ec]; exact nI_ne0 (by omega) (by omega)) (br_t rfl p)⟩⟩, fun yrowLength yfirst yrow yends ylack yshortest post p => Y1 (fun _ _ => ⟨fun q => absurd q c0, fun _ => p _ _ _ _ _ _⟩)⟩
      · -- COMPLEX
        obtain rfl : s = 2 := by omega
        have k1 : ¬ kindOfType t = 1 := by rw [hs]; decide
        have k1' : ¬ kindOfType (nI t).toNatClampNeg = 1 := by rw [es]; decide
        have k2' : kindOfType (nI t).toNatClampNeg = 2 := es
        obtain ⟨kd, vl, R, m1, m2, m3, m4, m5, m6, m7⟩ := hM t ht hs
        have hrn : ∀ i, i < c e → kn_w g ch e i < 6 := fun i hi => (a2 _ (hk i hi).2).2
        have hN : xa_N (dp_sl (kn_w g ch e) (c e) 0) := by
          have key : ∀ n a, a + n ≤ c e → xa_N (dp_sl (kn_w g ch e) n a) := by
            intro n
            induction n with
            | zero => intro a _ x hx; cases hx
            | succ n ih => intro a ha; exact xa_N_cons.mpr ⟨hrn a (by omega), ih (a + 1) (by omega)⟩
          exact key (c e) 0 (by omega)
        have XC : ∀ {post : Int32 → Prop}, (ex_L vl R (dp_sl (kn_w g ch e) (c e) 0) → post 1) → (¬ ex_L vl R (dp_sl (kn_w g ch e) (c e) 0) → post 0) → wpX_contentFits post (drafted, latestPlace, positions, fragments, elementCount, draftKind, draftValue, weights, tokenAt, fragmentBegin, fragmentFirst, fragmentLast, fragmentEmpty, reachedWith, follow, bearing, accepting, kindOfType, leastOf, greatestOf, listedCount, listedValue, attributeUse, attributeType, typeOfName, inUse, nameOf, parentOf, kidCount, kids, hasValue, valueOf, hasAttribute, attributeValue, walked, waiting) (nI e) (nI t) := by
          intro post h1 h0
          refine ⟨vt, br_f k1' ⟨ve, ?_⟩⟩
          rw [ec]
          refine sx_afterKids (fr := 0) (g := g) (ch := ch) (by omega) he (by omega) (by omega) hk a2 ?_
          refine ⟨vp_in_nI (by omega) (by omega), ?_⟩
          rw [ct]
          have acc := xa_acc m7 hN
          by_cases hL : ex_L vl R (dp_sl (kn_w g ch e) (c e) 0)
          · exact br_f (acc.mpr hL) (h1 hL)
          · exact br_t (Classical.byContradiction (fun q => hL (acc.mp q))) (h0 hL)
        have Y1 : ∀ {yrowLength yfirst : Int32} {yrow yends ylack yshortest : Nat → Int32} {post : Int32 → SY → Prop}, (ex_L vl R (dp_sl (kn_w g ch e) (c e) 0) → ∀ (yrowLength yfirst : Int32) (yrow yends ylack yshortest : Nat → Int32), wY_status_69 post (nI e) (nI t) 0 latestPlace yroot yrowLength yfirst youts ytop ykind ywith ysize kindOfType listedCount attributeUse attributeType leastOf greatestOf listedValue typeOfName inUse hasValue hasAttribute nameOf yparent kids kidCount yrow valueOf attributeValue yends ylack yshortest youtKind youtWith ywork yworkWith yweight yfollow yfirsts ylasts ybare ymet ynameAt ytokenAt ytodo) → (¬ ex_L vl R (dp_sl (kn_w g ch e) (c e) 0) → ∀ (yrowLength yfirst : Int32) (yrow yends ylack yshortest : Nat → Int32), post 2 (latestPlace, yroot, yrowLength, yfirst, youts, ytop, ykind, ywith, ysize, kindOfType, listedCount, attributeUse, attributeType, leastOf, greatestOf, listedValue, typeOfName, inUse, hasValue, hasAttribute, nameOf, yparent, kids, kidCount, yrow, valueOf, attributeValue, yends, ylack, yshortest, youtKind, youtWith, ywork, yworkWith, yweight, yfollow, yfirsts, ylasts, ybare, ymet, ynameAt, ytokenAt, ytodo)) → wpY_status post (latestPlace, yroot, yrowLength, yfirst, youts, ytop, ykind, ywith, ysize, kindOfType, listedCount, attributeUse, attributeType, leastOf, greatestOf, listedValue, typeOfName, inUse, hasValue, hasAttribute, nameOf, yparent, kids, kidCount, yrow, valueOf, attributeValue, yends, ylack, yshortest, youtKind, youtWith, ywork, yworkWith, yweight, yfollow, yfirsts, ylasts, ybare, ymet, ynameAt, ytokenAt, ytodo) (nI e) := by
          intro yrowLength yfirst yrow yends ylack yshortest post h1 h0
          refine Y0 (fun q => absurd q k1) (fun _ => ?_)
          unfold wY_status_37
          refine R0 (fun yrowLength yrow hrl hrow => ?_)
          subst hrl
          refine br_t rfl ?_
          exact sy_isWord (w := kn_w g ch e) ht (by omega) (fun i hi => ⟨hrow i hi, hrn i hi⟩) m2 m1 m3 m4 m5 m6 (fun hL f sh en lk => br_f nb_10 (h1 hL _ _ _ _ _ _)) (fun hL f sh en lk => br_t rfl (h0 hL _ _ _ _ _ _))
        by_cases hL : ex_L vl R (dp_sl (kn_w g ch e) (c e) 0)
        · by_cases hv : hasValue e = 0
          · refine ⟨rA, fun post p => X0 (XC (fun _ => br_f nb_10 ⟨vt, br_t k2' ⟨ve, br_t (by rw [eh]; exact hv) (br_f nb_10 ⟨5, aX _ p⟩)⟩⟩) (fun q => absurd hL q)), fun yrowLength yfirst yrow yends ylack yshortest post p => Y1 (fun _ yrowLength yfirst yrow yends ylack yshortest => br_t rfl ⟨ve, br_t (by rw [eh]; exact hv) ⟨5, aY _ _ _ _ _ _ _ (p _ _ _ _ _ _)⟩⟩) (fun q => absurd hL q)⟩
          · refine ⟨3, fun post p => X0 (XC (fun _ => br_f nb_10 ⟨vt, br_t k2' ⟨ve, br_f (by rw [eh]; exact hv) (br_t rfl p)⟩⟩) (fun q => absurd hL q)), fun yrowLength yfirst yrow yends ylack yshortest post p => Y1 (fun _ yrowLength yfirst yrow yends ylack yshortest => br_t rfl ⟨ve, br_f (by rw [eh]; exact hv) (p _ _ _ _ _ _)⟩) (fun q => absurd hL q)⟩
        · exact ⟨2, fun post p => X0 (XC (fun q => absurd q hL) (fun _ => br_t rfl p)), fun yrowLength yfirst yrow yends ylack yshortest post p => Y1 (fun q => absurd q hL) (fun _ => p)⟩
end
theorem i_vc_status {k : Nat} {u : SX} {v : SY} (I : i_Rel k u v) (hk : k + 5 ≤ 2560) (v1 : Int32) : wpX_status (fun r => wpY_status (fun r' v' => r' = r ∧ i_Rel (k + 5) u v') v v1) u v1 := by
  refine i_el I (P := fun u v => wpX_status (fun r => wpY_status (fun r' v' => r' = r ∧ i_Rel (k + 5) u v') v v1) u v1) ?_
  intro d latestPlace positions fragments elementCount draftKind draftValue weights tokenAt fragmentBegin fragmentFirst fragmentLast fragmentEmpty reachedWith follow bearing accepting kindOfType leastOf greatestOf listedCount listedValue attributeUse attributeType typeOfName inUse nameOf parentOf kidCount kids hasValue valueOf hasAttribute attributeValue walked waiting yroot yrowLength yfirst youts ytop ykind ywith ysize yparent yrow yends ylack yshortest youtKind youtWith ywork yworkWith yweight yfollow yfirsts ylasts ybare ymet ynameAt ytokenAt ytodo hD hT hM hE
  unfold wpX_status
  rcases el_cs inUse v1 with hv | ⟨e, he, rfl, hu⟩
  · refine sx_elem0 hv ?_
    refine br_t rfl ?_
    unfold wpY_status
    refine sy_no1 hv ?_
    refine br_f nb_10 ?_
    exact ⟨rfl, i_mk hD hT hM hE⟩
  · refine sx_elem1 he hu ?_
    refine br_f nb_10 ?_
    have hE' := hE
    obtain ⟨_, _, _, po, c, ch, g, rk, hE1⟩ := hE'
    have sb : ∃ r : Int32, (∀ post : Int32 → Prop, post r → wpX_statusOf post (nI d, latestPlace, positions, fragments, elementCount, draftKind, draftValue, weights, tokenAt, fragmentBegin, fragmentFirst, fragmentLast, fragmentEmpty, reachedWith, follow, bearing, accepting, kindOfType, leastOf, greatestOf, listedCount, listedValue, attributeUse, attributeType, typeOfName, inUse, nameOf, parentOf, kidCount, kids, hasValue, valueOf, hasAttribute, attributeValue, walked, waiting) (nI e)) ∧ ∀ (yrowLength yfirst : Int32) (yrow yends ylack yshortest : Nat → Int32) (post : Int32 → SY → Prop), (∀ (yrowLength yfirst : Int32) (yrow yends ylack yshortest : Nat → Int32), post r (latestPlace, yroot, yrowLength, yfirst, youts, ytop, ykind, ywith, ysize, kindOfType, listedCount, attributeUse, attributeType, leastOf, greatestOf, listedValue, typeOfName, inUse, hasValue, hasAttribute, nameOf, yparent, kids, kidCount, yrow, valueOf, attributeValue, yends, ylack, yshortest, youtKind, youtWith, ywork, yworkWith, yweight, yfollow, yfirsts, ylasts, ybare, ymet, ynameAt, ytokenAt, ytodo)) → wpY_status post (latestPlace, yroot, yrowLength, yfirst, youts, ytop, ykind, ywith, ysize, kindOfType, listedCount, attributeUse, attributeType, leastOf, greatestOf, listedValue, typeOfName, inUse, hasValue, hasAttribute, nameOf, yparent, kids, kidCount, yrow, valueOf, attributeValue, yends, ylack, yshortest, youtKind, youtWith, ywork, yworkWith, yweight, yfollow, yfirsts, ylasts, ybare, ymet, ynameAt, ytokenAt, ytodo) (nI e) := st_both hT hM hE1 he hu
    obtain ⟨r, rX, rY⟩ := sb
    exact rX _ (rY _ _ _ _ _ _ _ (fun yrowLength yfirst yrow yends ylack yshortest => ⟨rfl, i_mk hD hT hM hE⟩))
