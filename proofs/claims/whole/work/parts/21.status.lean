/-! ===== automata run, simple types, attributes, status ===== -/
theorem nb_m31 (t i : Nat) : nI t * 31 + nI i = nI (31 * t + i) := by
  show nI t * nI 31 + nI i = _
  rw [pk_mul, nI_add, Nat.mul_comm]
theorem nb_m6 (t i : Nat) : nI t * 6 + nI i = nI (6 * t + i) := by
  show nI t * nI 6 + nI i = _
  rw [pk_mul, nI_add, Nat.mul_comm]
/-- the names of the kids of e -/
def kn_w (g : Nat → Nat) (ch : Nat → Nat → Nat) (e : Nat) : Nat → Nat := fun j => g (ch e j)
section
variable {drafted latestPlace positions fragments elementCount : Int32} {draftKind draftValue weights tokenAt fragmentBegin fragmentFirst fragmentLast fragmentEmpty reachedWith follow bearing accepting kindOfType leastOf greatestOf listedCount listedValue attributeUse attributeType typeOfName inUse nameOf parentOf kidCount kids hasValue valueOf hasAttribute attributeValue walked waiting : Nat → Int32} {yroot yrowLength yfirst youts ytop : Int32} {ykind ywith ysize yparent yrow yends ylack yshortest youtKind youtWith ywork yworkWith yweight yfollow yfirsts ylasts ybare ymet ynameAt ytokenAt ytodo : Nat → Int32}
theorem sx_fol5 {post : Int32 → Prop} {t : Nat} {S : Int32} (ht : t < 7) (h : post (xa_fl (fun s => follow (31 * t + s)) S 31)) : ∀ m i, i + m = 31 → wX_followers_5 post (nI t) S drafted latestPlace positions fragments elementCount draftKind draftValue weights tokenAt fragmentBegin fragmentFirst fragmentLast fragmentEmpty reachedWith follow bearing accepting kindOfType leastOf greatestOf listedCount listedValue attributeUse attributeType typeOfName inUse nameOf parentOf kidCount kids hasValue valueOf hasAttribute attributeValue walked waiting (m + 1) (xa_fl (fun s => follow (31 * t + s)) S i) (nI i) := by
  intro m
  induction m with
  | zero =>
    intro i hi
    obtain rfl : i = 31 := by omega
    exact br_t (by decide) h
  | succ m ih =>
    intro i hi
    have ih' := ih (i + 1) (by omega)
    refine br_f (nI_ge (b := 31) (by omega) (by omega)) ?_
    cases hb : bt S i with
    | false =>
      have e : xa_fl (fun s => follow (31 * t + s)) S (i + 1) = xa_fl (fun s => follow (31 * t + s)) S i := if_neg (by rw [hb]; exact Bool.false_ne_true)
      rw [e] at ih'
      exact br_t ((bb_t S (by omega)).mpr hb) (nm_r (nI_1 i) ih')
    | true =>
      have e : xa_fl (fun s => follow (31 * t + s)) S (i + 1) = xa_fl (fun s => follow (31 * t + s)) S i ||| follow (31 * t + i) := if_pos hb
      rw [e] at ih'
      refine br_f ((bb_t' S (by omega)).mpr hb) ?_
      rw [nb_m31]
      exact ⟨vp_in_nI (by omega) (by omega), nm_r (by rw [nb_cl (by omega)]) (nm_r (nI_1 i) ih')⟩
theorem sx_followers {post : Int32 → Prop} {t : Nat} {S : Int32} (ht : t < 7) (h : post (xa_fl (fun s => follow (31 * t + s)) S 31)) : wpX_followers post (drafted, latestPlace, positions, fragments, elementCount, draftKind, draftValue, weights, tokenAt, fragmentBegin, fragmentFirst, fragmentLast, fragmentEmpty, reachedWith, follow, bearing, accepting, kindOfType, leastOf, greatestOf, listedCount, listedValue, attributeUse, attributeType, typeOfName, inUse, nameOf, parentOf, kidCount, kids, hasValue, valueOf, hasAttribute, attributeValue, walked, waiting) (nI t) S := ⟨32, sx_fol5 ht h 31 0 (by omega)⟩
theorem sx_step {post : Int32 → Prop} {t n : Nat} {S : Int32} (ht : t < 7) (hn : n < 6) (h : post (xa_step (fun s => follow (31 * t + s)) (fun c => bearing (6 * t + c)) S n)) : wpX_step post (drafted, latestPlace, positions, fragments, elementCount, draftKind, draftValue, weights, tokenAt, fragmentBegin, fragmentFirst, fragmentLast, fragmentEmpty, reachedWith, follow, bearing, accepting, kindOfType, leastOf, greatestOf, listedCount, listedValue, attributeUse, attributeType, typeOfName, inUse, nameOf, parentOf, kidCount, kids, hasValue, valueOf, hasAttribute, attributeValue, walked, waiting) (nI t) S (nI n) := by
  unfold wpX_step
  refine sx_followers ht ?_
  show vp_in (nI t * 6 + nI n) 42 ∧ _
  rw [nb_m6]
  refine ⟨vp_in_nI (by omega) (by omega), ?_⟩
  rw [nb_cl (by omega)]
  exact h
theorem sx_aft7 {post : Int32 → Prop} {t e to : Nat} {g : Nat → Nat} {ch : Nat → Nat → Nat} (ht : t < 7) (he : e < 24) (hto : to ≤ 24) (hk : ∀ i, i < to → kids (24 * e + i) = nI (ch e i) ∧ ch e i < 24) (hg : ∀ x, x < 24 → nameOf x = nI (g x) ∧ g x < 6) : ∀ m i S, i + m = to → post (xa_run (fun s => follow (31 * t + s)) (fun c => bearing (6 * t + c)) S (dp_sl (kn_w g ch e) m i)) → wX_afterKids_7 post (nI t) (nI e) (nI to) drafted latestPlace positions fragments elementCount draftKind draftValue weights tokenAt fragmentBegin fragmentFirst fragmentLast fragmentEmpty reachedWith follow bearing accepting kindOfType leastOf greatestOf listedCount listedValue attributeUse attributeType typeOfName inUse nameOf parentOf kidCount kids hasValue valueOf hasAttribute attributeValue walked waiting (m + 1) S (nI i) := by
  intro m
  induction m with
  | zero =>
    intro i S hi h
    obtain rfl : i = to := by omega
    exact br_t (nI_le (Nat.le_refl _) (by omega)) h
  | succ m ih =>
    intro i S hi h
    obtain ⟨k1, k2⟩ := hk i (by omega)
    obtain ⟨g1, g2⟩ := hg _ k2
    refine br_f (nI_ge (by omega) (by omega)) ?_
    rw [nb_m24, nb_cl (by omega), k1, nb_cl (by omega), g1]
    exact ⟨vp_in_nI (by omega) (by omega), vp_in_nI k2 (by omega), sx_step ht g2 (nm_r (nI_1 i) (ih (i + 1) _ (by omega) h))⟩
theorem sx_afterKids {post : Int32 → Prop} {t e fr to : Nat} {S : Int32} {g : Nat → Nat} {ch : Nat → Nat → Nat} (ht : t < 7) (he : e < 24) (hto : to ≤ 24) (hft : fr ≤ to) (hk : ∀ i, i < to → kids (24 * e + i) = nI (ch e i) ∧ ch e i < 24) (hg : ∀ x, x < 24 → nameOf x = nI (g x) ∧ g x < 6) (h : post (xa_run (fun s => follow (31 * t + s)) (fun c => bearing (6 * t + c)) S (dp_sl (kn_w g ch e) (to - fr) fr))) : wpX_afterKids post (drafted, latestPlace, positions, fragments, elementCount, draftKind, draftValue, weights, tokenAt, fragmentBegin, fragmentFirst, fragmentLast, fragmentEmpty, reachedWith, follow, bearing, accepting, kindOfType, leastOf, greatestOf, listedCount, listedValue, attributeUse, attributeType, typeOfName, inUse, nameOf, parentOf, kidCount, kids, hasValue, valueOf, hasAttribute, attributeValue, walked, waiting) (nI t) S (nI e) (nI fr) (nI to) :=
  ⟨to - fr + 1, sx_aft7 ht he hto hk hg (to - fr) fr S (by omega) h⟩
/-- of the type, on both sides -/
theorem is_both {t c : Nat} {v : Int32} (ht : t < 6) (hs : kindOfType t = 1) (hc : c ≤ 4) (hm : listedCount t = nI c) : ∃ r : Int32, (r = 0 ∨ r = 1) ∧ (∀ post : Int32 → Prop, post r → wpX_isOfSimple post (drafted, latestPlace, positions, fragments, elementCount, draftKind, draftValue, weights, tokenAt, fragmentBegin, fragmentFirst, fragmentLast, fragmentEmpty, reachedWith, follow, bearing, accepting, kindOfType, leastOf, greatestOf, listedCount, listedValue, attributeUse, attributeType, typeOfName, inUse, nameOf, parentOf, kidCount, kids, hasValue, valueOf, hasAttribute, attributeValue, walked, waiting) (nI t) v) ∧ ∀ (yrowLength yfirst : Int32) (yrow yends ylack yshortest : Nat → Int32) (post : Int32 → Prop), post r → wpY_isOf post (latestPlace, yroot, yrowLength, yfirst, youts, ytop, ykind, ywith, ysize, kindOfType, listedCount, attributeUse, attributeType, leastOf, greatestOf, listedValue, typeOfName, inUse, hasValue, hasAttribute, nameOf, yparent, kids, kidCount, yrow, valueOf, attributeValue, yends, ylack, yshortest, youtKind, youtWith, ywork, yworkWith, yweight, yfollow, yfirsts, ylasts, ybare, ymet, ynameAt, ytokenAt, ytodo) v (nI t) := by
  have vt : vp_in (nI t) 6 := vp_in_nI ht (by omega)
  have ec : (nI t).toNatClampNeg = t := nb_cl (by omega)
  have es : kindOfType (nI t).toNatClampNeg = 1 := by rw [ec]; exact hs
  have em : listedCount (nI t).toNatClampNeg = nI c := by rw [ec]; exact hm
  by_cases h1 : v < leastOf t
  · refine ⟨0, Or.inl rfl, fun post p => ⟨vt, br_t (by rw [ec]; exact h1) p⟩, fun yrowLength yfirst yrow yends ylack yshortest post p => ⟨vt, br_t es ⟨vt, br_t (by rw [ec]; exact h1) p⟩⟩⟩
  · by_cases h2 : greatestOf t < v
    · have h2' : ¬ v ≤ greatestOf t := Int32.not_le.mpr h2
      refine ⟨0, Or.inl rfl, fun post p => ⟨vt, br_f (by rw [ec]; exact h1) ⟨vt, br_t (by rw [ec]; exact h2) p⟩⟩, fun yrowLength yfirst yrow yends ylack yshortest post p => ⟨vt, br_t es ⟨vt, br_f (by rw [ec]; exact h1) ⟨vt, br_f (by rw [ec]; exact h2') p⟩⟩⟩⟩
    · have h2' : v ≤ greatestOf t := Int32.not_lt.mp h2
      have loop : ∀ (yrowLength yfirst : Int32) (yrow yends ylack yshortest : Nat → Int32) (post : Int32 → Prop) (r : Int32), (narrow .boolean (.int r) = .int r ∧ post r) → ∀ m i (x : Int32), i + m = c → ((x = 1 ∧ r = 1) ∨ (x = 0 ∧ (∀ j, j < i → listedValue (4 * t + j) ≠ v) ∧ ((r = 1 ∧ ∃ j, j < c ∧ listedValue (4 * t + j) = v) ∨ (r = 0 ∧ ∀ j, j < c → listedValue (4 * t + j) ≠ v)))) → wY_isOf_50 post v (nI t) latestPlace yroot yrowLength yfirst youts ytop ykind ywith ysize kindOfType listedCount attributeUse attributeType leastOf greatestOf listedValue typeOfName inUse hasValue hasAttribute nameOf yparent kids kidCount yrow valueOf attributeValue yends ylack yshortest youtKind youtWith ywork yworkWith yweight yfollow yfirsts ylasts ybare ymet ynameAt ytokenAt ytodo (m + 1) x (nI i) := by
        intro yrowLength yfirst yrow yends ylack yshortest post r hp m
        induction m with
        | zero =>
          intro i x hi hx
          have hxr : x = r := by
            rcases hx with ⟨a, b⟩ | ⟨a, b, ⟨q, j, hj, e⟩ | ⟨q, _⟩⟩
            · rw [a, b]
            · exact absurd e (b j (by omega))
            · rw [a, q]
          rw [hxr]
          exact ⟨vt, br_t (by rw [em]; exact nI_le (by omega) (by omega)) hp⟩
        | succ m ih =>
          intro i x hi hx
          refine ⟨vt, br_f (by rw [em]; exact nI_ge (by omega) (by omega)) ?_⟩
          rw [nb_4m, nb_cl (by omega)]
          refine ⟨vp_in_nI (by omega) (by omega), ?_⟩
          by_cases q : listedValue (4 * t + i) = v
          · refine br_t q (nm_r (e' := 1) ?_ (nm_r (nI_1 i) (ih (i + 1) 1 (by omega) (Or.inl ⟨rfl, ?_⟩))))
            · rcases hx with ⟨a, _⟩ | ⟨a, _⟩ <;> rw [a] <;> decide
            · rcases hx with ⟨_, b⟩ | ⟨_, _, ⟨b, _⟩ | ⟨_, b⟩⟩
              · exact b
              · exact b
              · exact absurd q (b i (by omega))
          · refine br_f q (nm_r (e' := x) ?_ (nm_r (nI_1 i) (ih (i + 1) x (by omega) ?_)))
            · rcases hx with ⟨a, _⟩ | ⟨a, _⟩ <;> rw [a] <;> decide
            · rcases hx with h | ⟨a, b, c'⟩
              · exact Or.inl h
              · refine Or.inr ⟨a, fun j hj => ?_, c'⟩
                by_cases q2 : j = i
                · rw [q2]; exact q
                · exact b j (by omega)
      by_cases c0 : c = 0
      · refine ⟨1, Or.inr rfl, fun post p => ⟨vt, br_f (by rw [ec]; exact h1) ⟨vt, br_f (by rw [ec]; exact h2) ⟨vt, br_t (by rw [em, c0]; rfl) p⟩⟩⟩, fun yrowLength yfirst yrow yends ylack yshortest post p => ⟨vt, br_t es ⟨vt, br_f (by rw [ec]; exact h1) ⟨vt, br_t (by rw [ec]; exact h2') ⟨vt, br_t (by rw [em, c0]; rfl) ⟨c + 1, loop yrowLength yfirst yrow yends ylack yshortest post 1 ⟨nb_n1, p⟩ c 0 1 (by omega) (Or.inl ⟨rfl, rfl⟩)⟩⟩⟩⟩⟩⟩
      · have cn : ¬ listedCount (nI t).toNatClampNeg = 0 := by rw [em]; exact nI_ne0 (by omega) (by omega)
        by_cases hl : ∃ j, j < c ∧ listedValue (4 * t + j) = v
        · refine ⟨1, Or.inr rfl, fun post p => ⟨vt, br_f (by rw [ec]; exact h1) ⟨vt, br_f (by rw [ec]; exact h2) ⟨vt, br_f cn (sx_isListed ht hm hc (fun _ => br_f nb_10 p) (fun h => by obtain ⟨j, hj, e⟩ := hl; exact absurd e (h j hj)))⟩⟩⟩, fun yrowLength yfirst yrow yends ylack yshortest post p => ⟨vt, br_t es ⟨vt, br_f (by rw [ec]; exact h1) ⟨vt, br_t (by rw [ec]; exact h2') ⟨vt, br_f cn ⟨c + 1, loop yrowLength yfirst yrow yends ylack yshortest post 1 ⟨nb_n1, p⟩ c 0 0 (by omega) (Or.inr ⟨rfl, fun j hj => by omega, Or.inl ⟨rfl, hl⟩⟩)⟩⟩⟩⟩⟩⟩
        · have hl' : ∀ j, j < c → listedValue (4 * t + j) ≠ v := fun j hj e => hl ⟨j, hj, e⟩
          refine ⟨0, Or.inl rfl, fun post p => ⟨vt, br_f (by rw [ec]; exact h1) ⟨vt, br_f (by rw [ec]; exact h2) ⟨vt, br_f cn (sx_isListed ht hm hc (fun h => absurd h hl) (fun _ => br_t rfl p))⟩⟩⟩, fun yrowLength yfirst yrow yends ylack yshortest post p => ⟨vt, br_t es ⟨vt, br_f (by rw [ec]; exact h1) ⟨vt, br_t (by rw [ec]; exact h2') ⟨vt, br_f cn ⟨c + 1, loop yrowLength yfirst yrow yends ylack yshortest post 0 ⟨nb_n0, p⟩ c 0 0 (by omega) (Or.inr ⟨rfl, fun j hj => by omega, Or.inr ⟨rfl, hl'⟩⟩)⟩⟩⟩⟩⟩⟩
/-- an attribute, on both sides -/
theorem at_both {t e a s : Nat} (hT : rl_T kindOfType listedCount attributeUse attributeType typeOfName) (ht : t < 6) (he : e < 24) (ha : a < 4) (hs : kindOfType t = nI s) (hs0 : s = 1 ∨ s = 2) : ∃ r r' : Int32, ((r = 0 ∧ r' = 1) ∨ (r = 1 ∧ r' = 0)) ∧ (∀ post : Int32 → Prop, post r → wpX_attributeFits post (drafted, latestPlace, positions, fragments, elementCount, draftKind, draftValue, weights, tokenAt, fragmentBegin, fragmentFirst, fragmentLast, fragmentEmpty, reachedWith, follow, bearing, accepting, kindOfType, leastOf, greatestOf, listedCount, listedValue, attributeUse, attributeType, typeOfName, inUse, nameOf, parentOf, kidCount, kids, hasValue, valueOf, hasAttribute, attributeValue, walked, waiting) (nI e) (nI t) (nI a)) ∧ ∀ (yrowLength yfirst : Int32) (yrow yends ylack yshortest : Nat → Int32) (post : Int32 → Prop), post r' → wpY_wrong post (latestPlace, yroot, yrowLength, yfirst, youts, ytop, ykind, ywith, ysize, kindOfType, listedCount, attributeUse, attributeType, leastOf, greatestOf, listedValue, typeOfName, inUse, hasValue, hasAttribute, nameOf, yparent, kids, kidCount, yrow, valueOf, attributeValue, yends, ylack, yshortest, youtKind, youtWith, ywork, yworkWith, yweight, yfollow, yfirsts, ylasts, ybare, ymet, ynameAt, ytokenAt, ytodo) (nI e) (nI t) (nI a) := by
  have vt : vp_in (nI t) 6 := vp_in_nI ht (by omega)
  have ec : (nI t).toNatClampNeg = t := nb_cl (by omega)
  have i1 : nI e * 4 + nI a = nI (4 * e + a) := nb_m4 e a
  have i2 : 4 * nI e + nI a = nI (4 * e + a) := nb_4m e a
  have i3 : nI t * 4 + nI a = nI (4 * t + a) := nb_m4 t a
  have i4 : 4 * nI t + nI a = nI (4 * t + a) := nb_4m t a
  have v1 : vp_in (nI (4 * e + a)) 96 := vp_in_nI (by omega) (by omega)
  have v2 : vp_in (nI (4 * t + a)) 24 := vp_in_nI (by omega) (by omega)
  have c1 : (nI (4 * e + a)).toNatClampNeg = 4 * e + a := nb_cl (by omega)
  have c2 : (nI (4 * t + a)).toNatClampNeg = 4 * t + a := nb_cl (by omega)
  have X0 : ∀ {post : Int32 → Prop}, ((kindOfType t = 1 → (hasAttribute (4 * e + a) = 0 → post 1) ∧ (¬ hasAttribute (4 * e + a) = 0 → post 0)) ∧ (¬ kindOfType t = 1 → vp_in (nI (4 * t + a)) 24 ∧ ∀ x5 : Int32, x5 = attributeUse (4 * t + a) → (hasAttribute (4 * e + a) = 0 → wX_attributeFits_55 post (hasAttribute (4 * e + a)) x5 drafted latestPlace positions fragments elementCount draftKind draftValue weights tokenAt fragmentBegin fragmentFirst fragmentLast fragmentEmpty reachedWith follow bearing accepting kindOfType leastOf greatestOf listedCount listedValue attributeUse attributeType typeOfName inUse nameOf parentOf kidCount kids hasValue valueOf hasAttribute attributeValue walked waiting) ∧ (¬ hasAttribute (4 * e + a) = 0 → (x5 = 0 → wX_attributeFits_55 post (hasAttribute (4 * e + a)) x5 drafted latestPlace positions fragments elementCount draftKind draftValue weights tokenAt fragmentBegin fragmentFirst fragmentLast fragmentEmpty reachedWith follow bearing accepting kindOfType leastOf greatestOf listedCount listedValue attributeUse attributeType typeOfName inUse nameOf parentOf kidCount kids hasValue valueOf hasAttribute attributeValue walked waiting) ∧ (¬ x5 = 0 → vp_in (nI (4 * t + a)) 24 ∧ ∀ x6 : Int32, x6 = attributeType (4 * t + a) → (vp_in x6 6 ∧ (kindOfType x6.toNatClampNeg = 1 → vp_in (nI (4 * e + a)) 96 ∧ wpX_isOfSimple (fun r_16 => (r_16 = 0 → post 0) ∧ (¬ r_16 = 0 → post 1)) (drafted, latestPlace, positions, fragments, elementCount, draftKind, draftValue, weights, tokenAt, fragmentBegin, fragmentFirst, fragmentLast, fragmentEmpty, reachedWith, follow, bearing, accepting, kindOfType, leastOf, greatestOf, listedCount, listedValue, attributeUse, attributeType, typeOfName, inUse, nameOf, parentOf, kidCount, kids, hasValue, valueOf, hasAttribute, attributeValue, walked, waiting) x6 (attributeValue (4 * e + a))) ∧ (¬ kindOfType x6.toNatClampNeg = 1 → post 0)))))) → wpX_attributeFits post (drafted, latestPlace, positions, fragments, elementCount, draftKind, draftValue, weights, tokenAt, fragmentBegin, fragmentFirst, fragmentLast, fragmentEmpty, reachedWith, follow, bearing, accepting, kindOfType, leastOf, greatestOf, listedCount, listedValue, attributeUse, attributeType, typeOfName, inUse, nameOf, parentOf, kidCount, kids, hasValue, valueOf, hasAttribute, attributeValue, walked, waiting) (nI e) (nI t) (nI a) := by
    intro post h
    unfold wpX_attributeFits
    dsimp only
    rw [i1, i3, c1, c2, ec]
    exact ⟨v1, nm_e ⟨vt, h⟩⟩
  have Y0 : ∀ {yrowLength yfirst : Int32} {yrow yends ylack yshortest : Nat → Int32} {post : Int32 → Prop} (z0 : Int32), ((hasAttribute (4 * e + a) = 0 → (z0 = 2 → post 1) ∧ (¬ z0 = 2 → post 0)) ∧ (¬ hasAttribute (4 * e + a) = 0 → (z0 = 0 → post 1) ∧ (¬ z0 = 0 → wpY_isOf (fun r_9 => (r_9 = 0 → post 1) ∧ (¬ r_9 = 0 → post 0)) (latestPlace, yroot, yrowLength, yfirst, youts, ytop, ykind, ywith, ysize, kindOfType, listedCount, attributeUse, attributeType, leastOf, greatestOf, listedValue, typeOfName, inUse, hasValue, hasAttribute, nameOf, yparent, kids, kidCount, yrow, valueOf, attributeValue, yends, ylack, yshortest, youtKind, youtWith, ywork, yworkWith, yweight, yfollow, yfirsts, ylasts, ybare, ymet, ynameAt, ytokenAt, ytodo) (attributeValue (4 * e + a)) (attributeType (4 * t + a))))) → wY_wrong_24 post (nI e) (nI t) (nI a) z0 latestPlace yroot yrowLength yfirst youts ytop ykind ywith ysize kindOfType listedCount attributeUse attributeType leastOf greatestOf listedValue typeOfName inUse hasValue hasAttribute nameOf yparent kids kidCount yrow valueOf attributeValue yends ylack yshortest youtKind youtWith ywork yworkWith yweight yfollow yfirsts ylasts ybare ymet ynameAt ytokenAt ytodo := by
    intro yrowLength yfirst yrow yends ylack yshortest post z0 h
    unfold wY_wrong_24
    rw [i2, i4, c1, c2]
    exact ⟨v1, h.1, fun hz => ⟨(h.2 hz).1, fun hz2 => ⟨v1, v2, (h.2 hz).2 hz2⟩⟩⟩
  have Y1 : ∀ {yrowLength yfirst : Int32} {yrow yends ylack yshortest : Nat → Int32} {post : Int32 → Prop}, (kindOfType t = 1 → wY_wrong_24 post (nI e) (nI t) (nI a) 0 latestPlace yroot yrowLength yfirst youts ytop ykind ywith ysize kindOfType listedCount attributeUse attributeType leastOf greatestOf listedValue typeOfName inUse hasValue hasAttribute nameOf yparent kids kidCount yrow valueOf attributeValue yends ylack yshortest youtKind youtWith ywork yworkWith yweight yfollow yfirsts ylasts ybare ymet ynameAt ytokenAt ytodo) → (¬ kindOfType t = 1 → wY_wrong_24 post (nI e) (nI t) (nI a) (attributeUse (4 * t + a)) latestPlace yroot yrowLength yfirst youts ytop ykind ywith ysize kindOfType listedCount attributeUse attributeType leastOf greatestOf listedValue typeOfName inUse hasValue hasAttribute nameOf yparent kids kidCount yrow valueOf attributeValue yends ylack yshortest youtKind youtWith ywork yworkWith yweight yfollow yfirsts ylasts ybare ymet ynameAt ytokenAt ytodo) → wpY_wrong post (latestPlace, yroot, yrowLength, yfirst, youts, ytop, ykind, ywith, ysize, kindOfType, listedCount, attributeUse, attributeType, leastOf, greatestOf, listedValue, typeOfName, inUse, hasValue, hasAttribute, nameOf, yparent, kids, kidCount, yrow, valueOf, attributeValue, yends, ylack, yshortest, youtKind, youtWith, ywork, yworkWith, yweight, yfollow, yfirsts, ylasts, ybare, ymet, ynameAt, ytokenAt, ytodo) (nI e) (nI t) (nI a) := by
    intro yrowLength yfirst yrow yends ylack yshortest post h1 h2
    unfold wpY_wrong
    dsimp only
    rw [i4, c2, ec]
    exact ⟨vt, h1, fun h => ⟨v2, h2 h⟩⟩
  rcases hs0 with rfl | rfl
  · -- SIMPLE
    have k1 : kindOfType t = 1 := hs
    by_cases hh : hasAttribute (4 * e + a) = 0
    · exact ⟨1, 0, Or.inr ⟨rfl, rfl⟩, fun post p => X0 (br_t k1 (br_t hh p)), fun yrowLength yfirst yrow yends ylack yshortest post p => Y1 (fun _ => Y0 0 (br_t hh (br_f (by decide) p))) (fun h => absurd k1 h)⟩
    · exact ⟨0, 1, Or.inl ⟨rfl, rfl⟩, fun post p => X0 (br_t k1 (br_f hh p)), fun yrowLength yfirst yrow yends ylack yshortest post p => Y1 (fun _ => Y0 0 (br_f hh (br_t rfl p))) (fun h => absurd k1 h)⟩
  · -- COMPLEX
    have k1 : ¬ kindOfType t = 1 := by rw [hs]; decide
    obtain ⟨⟨c, hc, eu⟩, ⟨y, hy, ey⟩⟩ := hT.2.2.1 (4 * t + a) (by omega)
    by_cases hh : hasAttribute (4 * e + a) = 0
    · by_cases c2' : c = 2
      · subst c2'
        exact ⟨0, 1, Or.inl ⟨rfl, rfl⟩, fun post p => X0 (br_f k1 ⟨v2, nm_r eu (br_t hh (br_t hh (br_t rfl p)))⟩), fun yrowLength yfirst yrow yends ylack yshortest post p => Y1 (fun h => absurd h k1) (fun _ => by rw [eu]; exact Y0 _ (br_t hh (br_t rfl p)))⟩
      · have n2 : ¬ nI c = 2 := fun h => c2' ((nI_eq (b := 2) (by omega) (by omega)).mp h)
        exact ⟨1, 0, Or.inr ⟨rfl, rfl⟩, fun post p => X0 (br_f k1 ⟨v2, nm_r eu (br_t hh (br_t hh (br_f n2 p)))⟩), fun yrowLength yfirst yrow yends ylack yshortest post p => Y1 (fun h => absurd h k1) (fun _ => by rw [eu]; exact Y0 _ (br_t hh (br_f n2 p)))⟩
    · by_cases c0 : c = 0
      · subst c0
        exact ⟨0, 1, Or.inl ⟨rfl, rfl⟩, fun post p => X0 (br_f k1 ⟨v2, nm_r eu (br_f hh (br_t rfl (br_f hh p)))⟩), fun yrowLength yfirst yrow yends ylack yshortest post p => Y1 (fun h => absurd h k1) (fun _ => by rw [eu]; exact Y0 _ (br_f hh (br_t rfl p)))⟩
      · have n0 : ¬ nI c = 0 := nI_ne0 (by omega) (by omega)
        have vy : vp_in (nI y) 6 := vp_in_nI hy (by omega)
        have cy : (nI y).toNatClampNeg = y := nb_cl (by omega)
        by_cases ky : kindOfType y = 1
        · obtain ⟨m, hm, em⟩ := hT.2.1 y hy
          have ib : ∃ r : Int32, (r = 0 ∨ r = 1) ∧ (∀ post : Int32 → Prop, post r → wpX_isOfSimple post (drafted, latestPlace, positions, fragments, elementCount, draftKind, draftValue, weights, tokenAt, fragmentBegin, fragmentFirst, fragmentLast, fragmentEmpty, reachedWith, follow, bearing, accepting, kindOfType, leastOf, greatestOf, listedCount, listedValue, attributeUse, attributeType, typeOfName, inUse, nameOf, parentOf, kidCount, kids, hasValue, valueOf, hasAttribute, attributeValue, walked, waiting) (nI y) (attributeValue (4 * e + a))) ∧ ∀ (yrowLength yfirst : Int32) (yrow yends ylack yshortest : Nat → Int32) (post : Int32 → Prop), post r → wpY_isOf post (latestPlace, yroot, yrowLength, yfirst, youts, ytop, ykind, ywith, ysize, kindOfType, listedCount, attributeUse, attributeType, leastOf, greatestOf, listedValue, typeOfName, inUse, hasValue, hasAttribute, nameOf, yparent, kids, kidCount, yrow, valueOf, attributeValue, yends, ylack, yshortest, youtKind, youtWith, ywork, yworkWith, yweight, yfollow, yfirsts, ylasts, ybare, ymet, ynameAt, ytokenAt, ytodo) (attributeValue (4 * e + a)) (nI y) := is_both hy ky hm em
          obtain ⟨r, hr, rX, rY⟩ := ib
          have X1 : ∀ (post : Int32 → Prop), ((r = 0 → post 0) ∧ (¬ r = 0 → post 1)) → wpX_attributeFits post (drafted, latestPlace, positions, fragments, elementCount, draftKind, draftValue, weights, tokenAt, fragmentBegin, fragmentFirst, fragmentLast, fragmentEmpty, reachedWith, follow, bearing, accepting, kindOfType, leastOf, greatestOf, listedCount, listedValue, attributeUse, attributeType, typeOfName, inUse, nameOf, parentOf, kidCount, kids, hasValue, valueOf, hasAttribute, attributeValue, walked, waiting) (nI e) (nI t) (nI a) := fun post p => X0 (br_f k1 ⟨v2, nm_r eu (br_f hh (br_f n0 ⟨v2, nm_r ey ⟨vy, br_t (by rw [cy]; exact ky) ⟨v1, rX _ p⟩⟩⟩))⟩)
          have Y2 : ∀ (yrowLength yfirst : Int32) (yrow yends ylack yshortest : Nat → Int32) (post : Int32 → Prop), ((r = 0 → post 1) ∧ (¬ r = 0 → post 0)) → wpY_wrong post (latestPlace, yroot, yrowLength, yfirst, youts, ytop, ykind, ywith, ysize, kindOfType, listedCount, attributeUse, attributeType, leastOf, greatestOf, listedValue, typeOfName, inUse, hasValue, hasAttribute, nameOf, yparent, kids, kidCount, yrow, valueOf, attributeValue, yends, ylack, yshortest, youtKind, youtWith, ywork, yworkWith, yweight, yfollow, yfirsts, ylasts, ybare, ymet, ynameAt, ytokenAt, ytodo) (nI e) (nI t) (nI a) := fun yrowLength yfirst yrow yends ylack yshortest post p => Y1 (fun h => absurd h k1) (fun _ => by rw [eu]; exact Y0 _ (br_f hh (br_f n0 (by rw [ey]; exact rY _ _ _ _ _ _ _ p))))
          rcases hr with rfl | rfl
          · exact ⟨0, 1, Or.inl ⟨rfl, rfl⟩, fun post p => X1 post (br_t rfl p), fun yrowLength yfirst yrow yends ylack yshortest post p => Y2 yrowLength yfirst yrow yends ylack yshortest post (br_t rfl p)⟩
          · exact ⟨1, 0, Or.inr ⟨rfl, rfl⟩, fun post p => X1 post (br_f nb_10 p), fun yrowLength yfirst yrow yends ylack yshortest post p => Y2 yrowLength yfirst yrow yends ylack yshortest post (br_f nb_10 p)⟩
        · exact ⟨0, 1, Or.inl ⟨rfl, rfl⟩, fun post p => X0 (br_f k1 ⟨v2, nm_r eu (br_f hh (br_f n0 ⟨v2, nm_r ey ⟨vy, br_f (by rw [cy]; exact ky) p⟩⟩))⟩), fun yrowLength yfirst yrow yends ylack yshortest post p => Y1 (fun h => absurd h k1) (fun _ => by rw [eu]; exact Y0 _ (br_f hh (br_f n0 (by rw [ey]; exact ⟨vy, br_f (by rw [cy]; exact ky) (br_t rfl p)⟩))))⟩
end
