/-! ===== check ===== -/
section
variable {drafted latestPlace positions fragments elementCount : Int32} {draftKind draftValue weights tokenAt fragmentBegin fragmentFirst fragmentLast fragmentEmpty reachedWith follow bearing accepting kindOfType leastOf greatestOf listedCount listedValue attributeUse attributeType typeOfName inUse nameOf parentOf kidCount kids hasValue valueOf hasAttribute attributeValue walked waiting : Nat → Int32} {yroot yrowLength yfirst youts ytop : Int32} {ykind ywith ysize yparent yrow yends ylack yshortest youtKind youtWith ywork yworkWith yweight yfollow yfirsts ylasts ybare ymet ynameAt ytokenAt ytodo : Nat → Int32}
theorem ck_sig {po : Nat → Option Nat} {c : Nat → Nat} {ch : Nat → Nat → Nat} {g rk : Nat → Nat} (hT : rl_T kindOfType listedCount attributeUse attributeType typeOfName) (hM : rl_M kindOfType follow bearing accepting ykind ywith ysize) (hE : rl_E1 inUse nameOf parentOf kidCount kids yparent po c ch g rk) : ∃ σ : Nat → Int32, ∀ x, inUse x ≠ 0 → (∀ post : Int32 → Prop, post (σ x) → wpX_statusOf post (drafted, latestPlace, positions, fragments, elementCount, draftKind, draftValue, weights, tokenAt, fragmentBegin, fragmentFirst, fragmentLast, fragmentEmpty, reachedWith, follow, bearing, accepting, kindOfType, leastOf, greatestOf, listedCount, listedValue, attributeUse, attributeType, typeOfName, inUse, nameOf, parentOf, kidCount, kids, hasValue, valueOf, hasAttribute, attributeValue, walked, waiting) (nI x)) ∧ ∀ (yrowLength yfirst : Int32) (yrow yends ylack yshortest : Nat → Int32) (post : Int32 → SY → Prop), (∀ (yrowLength yfirst : Int32) (yrow yends ylack yshortest : Nat → Int32), post (σ x) (latestPlace, yroot, yrowLength, yfirst, youts, ytop, ykind, ywith, ysize, kindOfType, listedCount, attributeUse, attributeType, leastOf, greatestOf, listedValue, typeOfName, inUse, hasValue, hasAttribute, nameOf, yparent, kids, kidCount, yrow, valueOf, attributeValue, yends, ylack, yshortest, youtKind, youtWith, ywork, yworkWith, yweight, yfollow, yfirsts, ylasts, ybare, ymet, ynameAt, ytokenAt, ytodo)) → wpY_status post (latestPlace, yroot, yrowLength, yfirst, youts, ytop, ykind, ywith, ysize, kindOfType, listedCount, attributeUse, attributeType, leastOf, greatestOf, listedValue, typeOfName, inUse, hasValue, hasAttribute, nameOf, yparent, kids, kidCount, yrow, valueOf, attributeValue, yends, ylack, yshortest, youtKind, youtWith, ywork, yworkWith, yweight, yfollow, yfirsts, ylasts, ybare, ymet, ynameAt, ytokenAt, ytodo) (nI x) := by
  refine Classical.axiomOfChoice (r := fun x (s : Int32) => inUse x ≠ 0 → (∀ post : Int32 → Prop, post s → wpX_statusOf post (drafted, latestPlace, positions, fragments, elementCount, draftKind, draftValue, weights, tokenAt, fragmentBegin, fragmentFirst, fragmentLast, fragmentEmpty, reachedWith, follow, bearing, accepting, kindOfType, leastOf, greatestOf, listedCount, listedValue, attributeUse, attributeType, typeOfName, inUse, nameOf, parentOf, kidCount, kids, hasValue, valueOf, hasAttribute, attributeValue, walked, waiting) (nI x)) ∧ ∀ (yrowLength yfirst : Int32) (yrow yends ylack yshortest : Nat → Int32) (post : Int32 → SY → Prop), (∀ (yrowLength yfirst : Int32) (yrow yends ylack yshortest : Nat → Int32), post s (latestPlace, yroot, yrowLength, yfirst, youts, ytop, ykind, ywith, ysize, kindOfType, listedCount, attributeUse, attributeType, leastOf, greatestOf, listedValue, typeOfName, inUse, hasValue, hasAttribute, nameOf, yparent, kids, kidCount, yrow, valueOf, attributeValue, yends, ylack, yshortest, youtKind, youtWith, ywork, yworkWith, yweight, yfollow, yfirsts, ylasts, ybare, ymet, ynameAt, ytokenAt, ytodo)) → wpY_status post (latestPlace, yroot, yrowLength, yfirst, youts, ytop, ykind, ywith, ysize, kindOfType, listedCount, attributeUse, attributeType, leastOf, greatestOf, listedValue, typeOfName, inUse, hasValue, hasAttribute, nameOf, yparent, kids, kidCount, yrow, valueOf, attributeValue, yends, ylack, yshortest, youtKind, youtWith, ywork, yworkWith, yweight, yfollow, yfirsts, ylasts, ybare, ymet, ynameAt, ytokenAt, ytodo) (nI x)) (fun x => ?_)
  by_cases hu : inUse x ≠ 0
  · obtain ⟨r, rX, rY⟩ := (st_both hT hM hE (hE.2.2.2.2.1.1 x hu) hu : ∃ r : Int32, (∀ post : Int32 → Prop, post r → wpX_statusOf post (drafted, latestPlace, positions, fragments, elementCount, draftKind, draftValue, weights, tokenAt, fragmentBegin, fragmentFirst, fragmentLast, fragmentEmpty, reachedWith, follow, bearing, accepting, kindOfType, leastOf, greatestOf, listedCount, listedValue, attributeUse, attributeType, typeOfName, inUse, nameOf, parentOf, kidCount, kids, hasValue, valueOf, hasAttribute, attributeValue, walked, waiting) (nI x)) ∧ ∀ (yrowLength yfirst : Int32) (yrow yends ylack yshortest : Nat → Int32) (post : Int32 → SY → Prop), (∀ (yrowLength yfirst : Int32) (yrow yends ylack yshortest : Nat → Int32), post r (latestPlace, yroot, yrowLength, yfirst, youts, ytop, ykind, ywith, ysize, kindOfType, listedCount, attributeUse, attributeType, leastOf, greatestOf, listedValue, typeOfName, inUse, hasValue, hasAttribute, nameOf, yparent, kids, kidCount, yrow, valueOf, attributeValue, yends, ylack, yshortest, youtKind, youtWith, ywork, yworkWith, yweight, yfollow, yfirsts, ylasts, ybare, ymet, ynameAt, ytokenAt, ytodo)) → wpY_status post (latestPlace, yroot, yrowLength, yfirst, youts, ytop, ykind, ywith, ysize, kindOfType, listedCount, attributeUse, attributeType, leastOf, greatestOf, listedValue, typeOfName, inUse, hasValue, hasAttribute, nameOf, yparent, kids, kidCount, yrow, valueOf, attributeValue, yends, ylack, yshortest, youtKind, youtWith, ywork, yworkWith, yweight, yfollow, yfirsts, ylasts, ybare, ymet, ynameAt, ytokenAt, ytodo) (nI x))
    exact ⟨r, fun _ => ⟨rX, rY⟩⟩
  · exact ⟨0, fun h => absurd h hu⟩
end
theorem ck_len {iu : Nat → Int32} {po : Nat → Option Nat} {c : Nat → Nat} {ch : Nat → Nat → Nat} {rk : Nat → Nat} {ws : List Nat} (hI : tr_I (fun x => iu x ≠ 0) po c ch rk) (hV : tr_V (fun x => iu x ≠ 0) po c ch rk 0 ws []) : ws.length = tr_cn iu 24 := by
  have huse : ∀ x, x ∈ ws → iu x ≠ 0 := fun x hx => (hV.2.1 x (by rw [List.append_nil]; exact hx)).1
  have hall : ∀ x, iu x ≠ 0 → x ∈ ws := by
    intro x hx
    obtain ⟨j, hj⟩ := tr_all hI (rk x) x (Nat.le_refl _) hx
    exact tr_V_out (fun x y h1 _ h3 => ⟨(tr_up hI h1 h3).1, fun _ => (tr_up hI h1 h3).2.2⟩) hV j x hx hj
  have hnd : ws.Nodup := by have := hV.1; rw [List.append_nil] at this; exact this
  have h1 := cb_mem 24 ws hnd (fun x hx => hI.1.1 x (huse x hx))
  have h2 := rm_cn (iu := iu) huse 24
  have h3 : tr_cn (rm_l iu ws) 24 = 0 := (tr_cn_none 24).mpr (fun i _ => by
    unfold rm_l
    by_cases q : i ∈ ws
    · rw [if_pos q]
    · rw [if_neg q]
      apply Classical.byContradiction
      intro hn
      exact q (hall i hn))
  omega
theorem i_vc_check {k : Nat} {u : SX} {v : SY} (I : i_Rel k u v) (hk : k + 5 ≤ 2560) (v1 : Int32) : wpX_check (fun r u' => wpY_check (fun r' v' => r' = r ∧ i_Rel (k + 5) u' v') v v1) u v1 := by
  refine i_el I (P := fun u v => wpX_check (fun r u' => wpY_check (fun r' v' => r' = r ∧ i_Rel (k + 5) u' v') v v1) u v1) ?_
  intro d latestPlace positions fragments elementCount draftKind draftValue weights tokenAt fragmentBegin fragmentFirst fragmentLast fragmentEmpty reachedWith follow bearing accepting kindOfType leastOf greatestOf listedCount listedValue attributeUse attributeType typeOfName inUse nameOf parentOf kidCount kids hasValue valueOf hasAttribute attributeValue walked waiting yroot yrowLength yfirst youts ytop ykind ywith ysize yparent yrow yends ylack yshortest youtKind youtWith ywork yworkWith yweight yfollow yfirsts ylasts ybare ymet ynameAt ytokenAt ytodo hD hT hM hE
  rcases nb_ix v1 3 (by omega) with hv | ⟨j, hj, rfl⟩
  · have n0 : ¬ v1 = 0 := by rintro rfl; exact absurd hv (by decide)
    have n1 : ¬ v1 = 1 := by rintro rfl; exact absurd hv (by decide)
    have n2 : ¬ v1 = 2 := by rintro rfl; exact absurd hv (by decide)
    refine br_f n2 (br_f n0 (br_f n1 ?_))
    unfold wpY_check
    refine sy_out1 (n := 3) (by omega) hv ?_
    refine br_f nb_10 ?_
    exact ⟨rfl, i_mk hD hT hM hE⟩
  · have hE' := hE
    obtain ⟨hec, hroot, hb, po, c, ch, g, rk, hE1⟩ := hE'
    have hI := hE1.2.2.2.2
    have Y0 : ∀ {post : Int32 → SY → Prop}, (∃ n23, wY_check_23 post (nI j) n23 (nI 0) (nI 0) (-1) yroot latestPlace yroot yrowLength yfirst youts ytop ykind ywith ysize kindOfType listedCount attributeUse attributeType leastOf greatestOf listedValue typeOfName inUse hasValue hasAttribute nameOf yparent kids kidCount yrow valueOf attributeValue yends ylack yshortest youtKind youtWith ywork yworkWith yweight yfollow yfirsts ylasts ybare ymet ynameAt ytokenAt ytodo) → wpY_check post (latestPlace, yroot, yrowLength, yfirst, youts, ytop, ykind, ywith, ysize, kindOfType, listedCount, attributeUse, attributeType, leastOf, greatestOf, listedValue, typeOfName, inUse, hasValue, hasAttribute, nameOf, yparent, kids, kidCount, yrow, valueOf, attributeValue, yends, ylack, yshortest, youtKind, youtWith, ywork, yworkWith, yweight, yfollow, yfirsts, ylasts, ybare, ymet, ynameAt, ytokenAt, ytodo) (nI j) := by
      intro post h
      unfold wpY_check
      refine sy_out0 (n := 3) (by omega) hj ?_
      exact br_t rfl h
    by_cases u0 : inUse 0 = 0
    · -- no document
      have z : ∀ i, i < 24 → inUse i = 0 := fun i _ => Classical.byContradiction (fun h => hI.2.2.1 i h u0)
      have c0 : tr_cn inUse 24 = 0 := (tr_cn_none 24).mpr z
      have hr : yroot = -1 := by rw [hroot, if_pos u0]
      subst hr
      have e0 : elementCount = 0 := by rw [hec, c0]; rfl
      have hc : j = 0 ∨ j = 1 ∨ j = 2 := by omega
      rcases hc with rfl | rfl | rfl
      · exact br_f (by decide) (br_t rfl (br_t e0 ⟨1, br_t (by decide) (br_t rfl (Y0 ⟨1, br_t (by decide) (br_t rfl ⟨rfl, i_mk hD hT hM hE⟩)⟩))⟩))
      · exact br_f (by decide) (br_f (by decide) (br_t rfl (br_t e0 ⟨1, br_t (by decide) (br_f (by decide) (Y0 ⟨1, br_t (by decide) (br_f (by decide) (br_t rfl ⟨rfl, i_mk hD hT hM hE⟩))⟩))⟩)))
      · exact br_t rfl (Y0 ⟨1, br_t (by decide) (br_f (by decide) (br_f (by decide) ⟨e0.symm, i_mk hD hT hM hE⟩))⟩)
    · have hr : yroot = 0 := by rw [hroot, if_neg u0]
      subst hr
      have hct : ∀ x, inUse x ≠ 0 → kidCount x = nI (c x) := fun x hx => (hE1.2.2.1 x (hI.1.1 x hx) hx).1
      have hkc : ∀ x i, inUse x ≠ 0 → i < c x → kids (24 * x + i) = nI (ch x i) := fun x i hx hi => hE1.2.2.2.1 x i (hI.1.1 x hx) hx hi
      -- the reference, once the order ws is known
      have Y1 : ∀ (σ : Nat → Int32) (ws : List Nat), (∀ x, inUse x ≠ 0 → ∀ (yrowLength yfirst : Int32) (yrow yends ylack yshortest : Nat → Int32) (post : Int32 → SY → Prop), (∀ (yrowLength yfirst : Int32) (yrow yends ylack yshortest : Nat → Int32), post (σ x) (latestPlace, 0, yrowLength, yfirst, youts, ytop, ykind, ywith, ysize, kindOfType, listedCount, attributeUse, attributeType, leastOf, greatestOf, listedValue, typeOfName, inUse, hasValue, hasAttribute, nameOf, yparent, kids, kidCount, yrow, valueOf, attributeValue, yends, ylack, yshortest, youtKind, youtWith, ywork, yworkWith, yweight, yfollow, yfirsts, ylasts, ybare, ymet, ynameAt, ytokenAt, ytodo)) → wpY_status post (latestPlace, 0, yrowLength, yfirst, youts, ytop, ykind, ywith, ysize, kindOfType, listedCount, attributeUse, attributeType, leastOf, greatestOf, listedValue, typeOfName, inUse, hasValue, hasAttribute, nameOf, yparent, kids, kidCount, yrow, valueOf, attributeValue, yends, ylack, yshortest, youtKind, youtWith, ywork, yworkWith, yweight, yfollow, yfirsts, ylasts, ybare, ymet, ynameAt, ytokenAt, ytodo) (nI x)) → tr_V (fun x => inUse x ≠ 0) po c ch rk 0 ws [] → ck_I (fun x => inUse x ≠ 0) po c ch ws [] → ∀ {post : Int32 → SY → Prop}, (∀ (yrowLength yfirst : Int32) (yrow yends ylack yshortest : Nat → Int32), (nI j = 0 → post (nI (ck_f σ ws 0 (-1)).1) (latestPlace, 0, yrowLength, yfirst, youts, ytop, ykind, ywith, ysize, kindOfType, listedCount, attributeUse, attributeType, leastOf, greatestOf, listedValue, typeOfName, inUse, hasValue, hasAttribute, nameOf, yparent, kids, kidCount, yrow, valueOf, attributeValue, yends, ylack, yshortest, youtKind, youtWith, ywork, yworkWith, yweight, yfollow, yfirsts, ylasts, ybare, ymet, ynameAt, ytokenAt, ytodo)) ∧ (¬ nI j = 0 → (nI j = 1 → post (ck_f σ ws 0 (-1)).2 (latestPlace, 0, yrowLength, yfirst, youts, ytop, ykind, ywith, ysize, kindOfType, listedCount, attributeUse, attributeType, leastOf, greatestOf, listedValue, typeOfName, inUse, hasValue, hasAttribute, nameOf, yparent, kids, kidCount, yrow, valueOf, attributeValue, yends, ylack, yshortest, youtKind, youtWith, ywork, yworkWith, yweight, yfollow, yfirsts, ylasts, ybare, ymet, ynameAt, ytokenAt, ytodo)) ∧ (¬ nI j = 1 → post (nI ws.length) (latestPlace, 0, yrowLength, yfirst, youts, ytop, ykind, ywith, ysize, kindOfType, listedCount, attributeUse, attributeType, leastOf, greatestOf, listedValue, typeOfName, inUse, hasValue, hasAttribute, nameOf, yparent, kids, kidCount, yrow, valueOf, attributeValue, yends, ylack, yshortest, youtKind, youtWith, ywork, yworkWith, yweight, yfollow, yfirsts, ylasts, ybare, ymet, ynameAt, ytokenAt, ytodo)))) → wpY_check post (latestPlace, 0, yrowLength, yfirst, youts, ytop, ykind, ywith, ysize, kindOfType, listedCount, attributeUse, attributeType, leastOf, greatestOf, listedValue, typeOfName, inUse, hasValue, hasAttribute, nameOf, yparent, kids, kidCount, yrow, valueOf, attributeValue, yends, ylack, yshortest, youtKind, youtWith, ywork, yworkWith, yweight, yfollow, yfirsts, ylasts, ybare, ymet, ynameAt, ytokenAt, ytodo) (nI j) := by
        intro σ ws hσ hV hck post h
        have hl := ck_len hI hV
        have hcn := tr_cn_le inUse 24
        rcases hck.2 with ⟨_, q⟩ | ⟨⟨l, q⟩, hck'⟩
        · cases q
        · subst q
          rw [List.length_cons] at hl
          refine Y0 ⟨l.length + 2, sy_chk23 hE1 hσ l 0 0 0 (-1) yrowLength yfirst yrow yends ylack yshortest hck.1 hck' (by omega) (by omega) (fun yrowLength yfirst yrow yends ylack yshortest => ?_)⟩
          have h' := h yrowLength yfirst yrow yends ylack yshortest
          rw [List.length_cons] at h'
          rw [Nat.zero_add]
          exact h'
      by_cases j2 : j = 2
      · subst j2
        obtain ⟨ws, hV, hck⟩ := tr_walk (Inv := ck_I (fun x => inUse x ≠ 0) po c ch) hI.1 (ck_I_s hI) 24 [] [0] rfl (tr_V_0 u0) ck_I_0
        have hl := ck_len hI hV
        obtain ⟨σ, hσ⟩ := (ck_sig hT hM hE1 : ∃ σ : Nat → Int32, ∀ x, inUse x ≠ 0 → (∀ post : Int32 → Prop, post (σ x) → wpX_statusOf post (nI d, latestPlace, positions, fragments, elementCount, draftKind, draftValue, weights, tokenAt, fragmentBegin, fragmentFirst, fragmentLast, fragmentEmpty, reachedWith, follow, bearing, accepting, kindOfType, leastOf, greatestOf, listedCount, listedValue, attributeUse, attributeType, typeOfName, inUse, nameOf, parentOf, kidCount, kids, hasValue, valueOf, hasAttribute, attributeValue, walked, waiting) (nI x)) ∧ ∀ (yrowLength yfirst : Int32) (yrow yends ylack yshortest : Nat → Int32) (post : Int32 → SY → Prop), (∀ (yrowLength yfirst : Int32) (yrow yends ylack yshortest : Nat → Int32), post (σ x) (latestPlace, 0, yrowLength, yfirst, youts, ytop, ykind, ywith, ysize, kindOfType, listedCount, attributeUse, attributeType, leastOf, greatestOf, listedValue, typeOfName, inUse, hasValue, hasAttribute, nameOf, yparent, kids, kidCount, yrow, valueOf, attributeValue, yends, ylack, yshortest, youtKind, youtWith, ywork, yworkWith, yweight, yfollow, yfirsts, ylasts, ybare, ymet, ynameAt, ytokenAt, ytodo)) → wpY_status post (latestPlace, 0, yrowLength, yfirst, youts, ytop, ykind, ywith, ysize, kindOfType, listedCount, attributeUse, attributeType, leastOf, greatestOf, listedValue, typeOfName, inUse, hasValue, hasAttribute, nameOf, yparent, kids, kidCount, yrow, valueOf, attributeValue, yends, ylack, yshortest, youtKind, youtWith, ywork, yworkWith, yweight, yfollow, yfirsts, ylasts, ybare, ymet, ynameAt, ytokenAt, ytodo) (nI x))
        refine br_t rfl (Y1 σ ws (fun x hx => (hσ x hx).2) hV hck (fun yrowLength yfirst yrow yends ylack yshortest => ?_))
        exact ⟨fun q => absurd q (by decide), fun _ => ⟨fun q => absurd q (by decide), fun _ => ⟨by rw [hl, hec], i_mk hD hT hM hE⟩⟩⟩
      · have n2 : ¬ nI j = 2 := fun q => j2 ((nI_eq (b := 2) (by omega) (by omega)).mp q)
        have ne : ¬ elementCount = 0 := by
          rw [hec]
          intro q
          have q' : tr_cn inUse 24 = 0 := (nI_eq (b := 0) (by have := tr_cn_le inUse 24; omega) (by omega)).mp q
          exact u0 ((tr_cn_none 24).mp q' 0 (by omega))
        have X1 : wX_check_21 (fun r u' => wpY_check (fun r' v' => r' = r ∧ i_Rel (k + 5) u' v') (latestPlace, 0, yrowLength, yfirst, youts, ytop, ykind, ywith, ysize, kindOfType, listedCount, attributeUse, attributeType, leastOf, greatestOf, listedValue, typeOfName, inUse, hasValue, hasAttribute, nameOf, yparent, kids, kidCount, yrow, valueOf, attributeValue, yends, ylack, yshortest, youtKind, youtWith, ywork, yworkWith, yweight, yfollow, yfirsts, ylasts, ybare, ymet, ynameAt, ytokenAt, ytodo) (nI j)) (nI j) (nI d) latestPlace positions fragments elementCount draftKind draftValue weights tokenAt fragmentBegin fragmentFirst fragmentLast fragmentEmpty reachedWith follow bearing accepting kindOfType leastOf greatestOf listedCount listedValue attributeUse attributeType typeOfName inUse nameOf parentOf kidCount kids hasValue valueOf hasAttribute attributeValue walked waiting := by
          refine br_f ne ?_
          refine sx_walk (top := 0) (Inv := ck_I (fun x => inUse x ≠ 0) po c ch) hI.1 u0 hct hkc (ck_I_s hI) ck_I_0 (fun ws wk wa hV hwk hck => ?_)
          have hl := ck_len hI hV
          have hcn := tr_cn_le inUse 24
          obtain ⟨σ, hσ⟩ := (ck_sig hT hM hE1 : ∃ σ : Nat → Int32, ∀ x, inUse x ≠ 0 → (∀ post : Int32 → Prop, post (σ x) → wpX_statusOf post (nI d, latestPlace, positions, fragments, elementCount, draftKind, draftValue, weights, tokenAt, fragmentBegin, fragmentFirst, fragmentLast, fragmentEmpty, reachedWith, follow, bearing, accepting, kindOfType, leastOf, greatestOf, listedCount, listedValue, attributeUse, attributeType, typeOfName, inUse, nameOf, parentOf, kidCount, kids, hasValue, valueOf, hasAttribute, attributeValue, wk, wa) (nI x)) ∧ ∀ (yrowLength yfirst : Int32) (yrow yends ylack yshortest : Nat → Int32) (post : Int32 → SY → Prop), (∀ (yrowLength yfirst : Int32) (yrow yends ylack yshortest : Nat → Int32), post (σ x) (latestPlace, 0, yrowLength, yfirst, youts, ytop, ykind, ywith, ysize, kindOfType, listedCount, attributeUse, attributeType, leastOf, greatestOf, listedValue, typeOfName, inUse, hasValue, hasAttribute, nameOf, yparent, kids, kidCount, yrow, valueOf, attributeValue, yends, ylack, yshortest, youtKind, youtWith, ywork, yworkWith, yweight, yfollow, yfirsts, ylasts, ybare, ymet, ynameAt, ytokenAt, ytodo)) → wpY_status post (latestPlace, 0, yrowLength, yfirst, youts, ytop, ykind, ywith, ysize, kindOfType, listedCount, attributeUse, attributeType, leastOf, greatestOf, listedValue, typeOfName, inUse, hasValue, hasAttribute, nameOf, yparent, kids, kidCount, yrow, valueOf, attributeValue, yends, ylack, yshortest, youtKind, youtWith, ywork, yworkWith, yweight, yfollow, yfirsts, ylasts, ybare, ymet, ynameAt, ytokenAt, ytodo) (nI x))
          refine ⟨ws.length + 1, sx_chk46 (σ := σ) (walked := wk) (waiting := wa) hwk (by omega) (fun x hx => ⟨hI.1.1 x (hck.1 x hx), (hσ x (hck.1 x hx)).1⟩) ws.length 0 0 (-1) (by omega) (by omega) ?_⟩
          rw [List.drop_zero]
          refine ⟨fun j0 => Y1 σ ws (fun x hx => (hσ x hx).2) hV hck (fun yrowLength yfirst yrow yends ylack yshortest => ⟨fun _ => ⟨rfl, i_mk hD hT hM hE⟩, fun q => absurd j0 q⟩), fun j0 => Y1 σ ws (fun x hx => (hσ x hx).2) hV hck (fun yrowLength yfirst yrow yends ylack yshortest => ⟨fun q => absurd q j0, fun _ => ⟨fun _ => ⟨rfl, i_mk hD hT hM hE⟩, fun q => ?_⟩⟩)⟩
          have hc : j = 0 ∨ j = 1 := by omega
          rcases hc with rfl | rfl
          · exact absurd rfl j0
          · exact absurd rfl q
        have hc : j = 0 ∨ j = 1 := by omega
        rcases hc with rfl | rfl
        · exact br_f n2 (br_t rfl X1)
        · exact br_f n2 (br_f (by decide) (br_t rfl X1))
