/-! ===== the component takes the draft over ===== -/
def cy_f (f : Nat → Int32) (o b m : Nat) : Nat → Int32 := fun j => if b ≤ j ∧ j < b + m then f (o + (j - b)) else f j
theorem cy_0 (f : Nat → Int32) (o b : Nat) : cy_f f o b 0 = f := by
  funext j
  unfold cy_f
  rw [if_neg (by omega)]
theorem cy_s {f : Nat → Int32} {o b m : Nat} (h : b + m ≤ o) : upd (cy_f f o b m) (b + m) (cy_f f o b m (o + m)) = cy_f f o b (m + 1) := by
  funext j
  unfold upd
  by_cases e : j = b + m
  · rw [if_pos e]
    unfold cy_f
    rw [if_neg (by omega), if_pos (by omega), show o + (j - b) = o + m by omega]
  · rw [if_neg e]
    unfold cy_f
    by_cases q : b ≤ j ∧ j < b + m
    · rw [if_pos q, if_pos (by omega)]
    · rw [if_neg q, if_neg (by omega)]
theorem cy_in {f : Nat → Int32} {o b m i : Nat} (h : i < m) : cy_f f o b m (b + i) = f (o + i) := by
  unfold cy_f
  rw [if_pos (by omega), show b + i - b = i by omega]
theorem cy_out {f : Nat → Int32} {o b m j : Nat} (h : j < b ∨ b + m ≤ j) : cy_f f o b m j = f j := by
  unfold cy_f
  rw [if_neg (by omega)]
theorem nb_mul (t c i : Nat) : nI t * nI c + nI i = nI (c * t + i) := by rw [pk_mul, nI_add, Nat.mul_comm]
theorem nb_mul' (t c i : Nat) : nI c * nI t + nI i = nI (c * t + i) := by rw [pk_mul, nI_add]
section
variable {drafted latestPlace positions fragments elementCount : Int32} {draftKind draftValue weights tokenAt fragmentBegin fragmentFirst fragmentLast fragmentEmpty reachedWith follow bearing accepting kindOfType leastOf greatestOf listedCount listedValue attributeUse attributeType typeOfName inUse nameOf parentOf kidCount kids hasValue valueOf hasAttribute attributeValue walked waiting : Nat → Int32}
theorem sx_ad84 {post : SX → Prop} {t : Nat} (ht : t < 6) (h : post (drafted, latestPlace, positions, fragments, elementCount, draftKind, draftValue, weights, tokenAt, fragmentBegin, fragmentFirst, fragmentLast, fragmentEmpty, reachedWith, follow, bearing, accepting, upd kindOfType t 2, leastOf, greatestOf, listedCount, listedValue, ha_clr attributeUse t 4, attributeType, typeOfName, inUse, nameOf, parentOf, kidCount, kids, hasValue, valueOf, hasAttribute, attributeValue, walked, waiting)) : ∀ m i, i + m = 4 → wX_adoptDraft_84 post (nI t) drafted latestPlace positions fragments elementCount (m + 1) (nI i) draftKind draftValue weights tokenAt fragmentBegin fragmentFirst fragmentLast fragmentEmpty reachedWith follow bearing accepting kindOfType leastOf greatestOf listedCount listedValue (ha_clr attributeUse t i) attributeType typeOfName inUse nameOf parentOf kidCount kids hasValue valueOf hasAttribute attributeValue walked waiting := by
  intro m
  induction m with
  | zero =>
    intro i hi
    obtain rfl : i = 4 := by omega
    exact br_t (by decide) ⟨vp_in_nI ht (by omega), nm_r (e' := upd kindOfType t 2) (by rw [nb_cl (by omega)]) h⟩
  | succ m ih =>
    intro i hi
    refine br_f (nI_ge (b := 4) (by omega) (by omega)) ?_
    rw [show nI t * 4 + nI i = nI (4 * t + i) from nb_mul t 4 i]
    exact ⟨vp_in_nI (by omega) (by omega), nm_r (e' := ha_clr attributeUse t (i + 1)) (by rw [nb_cl (by omega)]; exact ha_s _ _ _) (nm_r (nI_1 i) (ih (i + 1) (by omega)))⟩
theorem sx_ad37 {post : SX → Prop} {t : Nat} (ht : t < 6) (h : post (drafted, latestPlace, positions, fragments, elementCount, draftKind, draftValue, weights, tokenAt, fragmentBegin, fragmentFirst, fragmentLast, fragmentEmpty, reachedWith, follow, cy_f bearing 36 (6 * t) 6, upd accepting t (accepting 6), upd kindOfType t 2, leastOf, greatestOf, listedCount, listedValue, ha_clr attributeUse t 4, attributeType, typeOfName, inUse, nameOf, parentOf, kidCount, kids, hasValue, valueOf, hasAttribute, attributeValue, walked, waiting)) : ∀ m i, i + m = 6 → wX_adoptDraft_37 post (nI t) drafted latestPlace positions fragments elementCount (m + 1) (nI i) draftKind draftValue weights tokenAt fragmentBegin fragmentFirst fragmentLast fragmentEmpty reachedWith follow (cy_f bearing 36 (6 * t) i) accepting kindOfType leastOf greatestOf listedCount listedValue attributeUse attributeType typeOfName inUse nameOf parentOf kidCount kids hasValue valueOf hasAttribute attributeValue walked waiting := by
  intro m
  induction m with
  | zero =>
    intro i hi
    obtain rfl : i = 6 := by omega
    refine br_t (by decide) ⟨vp_in_nI (by omega) (by omega), nm_r (e' := upd accepting t (accepting 6)) (by rw [nb_cl (by omega)]) ⟨5, ?_⟩⟩
    have z := sx_ad84 (post := post) (t := t) (bearing := cy_f bearing 36 (6 * t) 6) (accepting := upd accepting t (accepting 6)) ht h 4 0 (by omega)
    rw [ha_0] at z
    exact z
  | succ m ih =>
    intro i hi
    refine br_f (nI_ge (b := 6) (by omega) (by omega)) ?_
    rw [show nI t * 6 + nI i = nI (6 * t + i) from nb_mul t 6 i, show (36 : Int32) + nI i = nI (36 + i) from nI_add 36 i]
    exact ⟨vp_in_nI (by omega) (by omega), vp_in_nI (by omega) (by omega), nm_r (e' := cy_f bearing 36 (6 * t) (i + 1)) (by rw [nb_cl (by omega), nb_cl (by omega)]; exact cy_s (by omega)) (nm_r (nI_1 i) (ih (i + 1) (by omega)))⟩
theorem sx_ad2 {post : SX → Prop} {t : Nat} (ht : t < 6) (h : post (drafted, latestPlace, positions, fragments, elementCount, draftKind, draftValue, weights, tokenAt, fragmentBegin, fragmentFirst, fragmentLast, fragmentEmpty, reachedWith, cy_f follow 186 (31 * t) 31, cy_f bearing 36 (6 * t) 6, upd accepting t (accepting 6), upd kindOfType t 2, leastOf, greatestOf, listedCount, listedValue, ha_clr attributeUse t 4, attributeType, typeOfName, inUse, nameOf, parentOf, kidCount, kids, hasValue, valueOf, hasAttribute, attributeValue, walked, waiting)) : ∀ m i, i + m = 31 → wX_adoptDraft_2 post (nI t) drafted latestPlace positions fragments elementCount (m + 1) (nI i) draftKind draftValue weights tokenAt fragmentBegin fragmentFirst fragmentLast fragmentEmpty reachedWith (cy_f follow 186 (31 * t) i) bearing accepting kindOfType leastOf greatestOf listedCount listedValue attributeUse attributeType typeOfName inUse nameOf parentOf kidCount kids hasValue valueOf hasAttribute attributeValue walked waiting := by
  intro m
  induction m with
  | zero =>
    intro i hi
    obtain rfl : i = 31 := by omega
    refine br_t (by decide) ⟨7, ?_⟩
    have z := sx_ad37 (post := post) (t := t) (follow := cy_f follow 186 (31 * t) 31) ht h 6 0 (by omega)
    rw [cy_0] at z
    exact z
  | succ m ih =>
    intro i hi
    refine br_f (nI_ge (b := 31) (by omega) (by omega)) ?_
    rw [show nI t * 31 + nI i = nI (31 * t + i) from nb_mul t 31 i, show (186 : Int32) + nI i = nI (186 + i) from nI_add 186 i]
    exact ⟨vp_in_nI (by omega) (by omega), vp_in_nI (by omega) (by omega), nm_r (e' := cy_f follow 186 (31 * t) (i + 1)) (by rw [nb_cl (by omega), nb_cl (by omega)]; exact cy_s (by omega)) (nm_r (nI_1 i) (ih (i + 1) (by omega)))⟩
theorem sx_adopt {post : SX → Prop} {t : Nat} (ht : t < 6) (h : post (drafted, latestPlace, positions, fragments, elementCount, draftKind, draftValue, weights, tokenAt, fragmentBegin, fragmentFirst, fragmentLast, fragmentEmpty, reachedWith, cy_f follow 186 (31 * t) 31, cy_f bearing 36 (6 * t) 6, upd accepting t (accepting 6), upd kindOfType t 2, leastOf, greatestOf, listedCount, listedValue, ha_clr attributeUse t 4, attributeType, typeOfName, inUse, nameOf, parentOf, kidCount, kids, hasValue, valueOf, hasAttribute, attributeValue, walked, waiting)) : wpX_adoptDraft post (drafted, latestPlace, positions, fragments, elementCount, draftKind, draftValue, weights, tokenAt, fragmentBegin, fragmentFirst, fragmentLast, fragmentEmpty, reachedWith, follow, bearing, accepting, kindOfType, leastOf, greatestOf, listedCount, listedValue, attributeUse, attributeType, typeOfName, inUse, nameOf, parentOf, kidCount, kids, hasValue, valueOf, hasAttribute, attributeValue, walked, waiting) (nI t) := by
  refine ⟨32, ?_⟩
  have z := sx_ad2 (post := post) ht h 31 0 (by omega)
  rw [cy_0] at z
  exact z
theorem sx_judge5 {post : Int32 → SX → Prop} {d : Nat} {kd vl : Nat → Nat} (hd : d ≤ 16) (hk : dr_K d draftKind draftValue kd vl) (hsc : ¬ ex_sc kd d 0 1) (h : post 5 (nI d, latestPlace, positions, fragments, elementCount, draftKind, draftValue, weights, tokenAt, fragmentBegin, fragmentFirst, fragmentLast, fragmentEmpty, reachedWith, follow, bearing, accepting, kindOfType, leastOf, greatestOf, listedCount, listedValue, attributeUse, attributeType, typeOfName, inUse, nameOf, parentOf, kidCount, kids, hasValue, valueOf, hasAttribute, attributeValue, walked, waiting)) : wpX_judgeDraft post (nI d, latestPlace, positions, fragments, elementCount, draftKind, draftValue, weights, tokenAt, fragmentBegin, fragmentFirst, fragmentLast, fragmentEmpty, reachedWith, follow, bearing, accepting, kindOfType, leastOf, greatestOf, listedCount, listedValue, attributeUse, attributeType, typeOfName, inUse, nameOf, parentOf, kidCount, kids, hasValue, valueOf, hasAttribute, attributeValue, walked, waiting) := by
  unfold wpX_judgeDraft
  exact sx_isOne (kd := kd) hd (fun i hi => ⟨(hk i hi).1, (hk i hi).2.1⟩) (fun q => absurd q hsc) (fun _ => br_t rfl h)
theorem sx_judge6 {post : Int32 → SX → Prop} {kd vl : Nat → Nat} {R : ex_T} (hd : ex_n R ≤ 16) (hk : dr_K (ex_n R) draftKind draftValue kd vl) (hsc : ex_sc kd (ex_n R) 0 1) (hS : ex_S kd vl R 0) (hW : ex_W R) (hw : 30 < ex_w R) (h : ∀ wt : Nat → Int32, post 6 (nI (ex_n R), latestPlace, positions, fragments, elementCount, draftKind, draftValue, wt, tokenAt, fragmentBegin, fragmentFirst, fragmentLast, fragmentEmpty, reachedWith, follow, bearing, accepting, kindOfType, leastOf, greatestOf, listedCount, listedValue, attributeUse, attributeType, typeOfName, inUse, nameOf, parentOf, kidCount, kids, hasValue, valueOf, hasAttribute, attributeValue, walked, waiting)) : wpX_judgeDraft post (nI (ex_n R), latestPlace, positions, fragments, elementCount, draftKind, draftValue, weights, tokenAt, fragmentBegin, fragmentFirst, fragmentLast, fragmentEmpty, reachedWith, follow, bearing, accepting, kindOfType, leastOf, greatestOf, listedCount, listedValue, attributeUse, attributeType, typeOfName, inUse, nameOf, parentOf, kidCount, kids, hasValue, valueOf, hasAttribute, attributeValue, walked, waiting) := by
  have l := ex_w_lt hW hd
  unfold wpX_judgeDraft
  refine sx_isOne (kd := kd) hd (fun i hi => ⟨(hk i hi).1, (hk i hi).2.1⟩) (fun _ => br_f nb_10 ?_) (fun q => absurd hsc q)
  exact sx_draftWeight (kd := kd) (vl := vl) hd (fun i hi => ⟨(hk i hi).1, (hk i hi).2.1, fun q => ⟨(hk i hi).2.2.2.2 (Or.inr q), ((hk i hi).2.2.2.1 q).1⟩⟩) hS (fun wt => br_f (nI_ge (b := ex_w R) (a := 30) hw (by omega)) (h wt))
theorem sx_judge0 {post : Int32 → SX → Prop} {kd vl : Nat → Nat} {R : ex_T} (hd : ex_n R ≤ 16) (hk : dr_K (ex_n R) draftKind draftValue kd vl) (hsc : ex_sc kd (ex_n R) 0 1) (hS : ex_S kd vl R 0) (hW : ex_W R) (hw : ex_w R ≤ 30)
    (h : ∀ (x fr : Int32) (wt ta fb ff fl fe rw fo be ac : Nat → Int32), cf_best (gl_C (ex_L id R) vl) x → xb_D (ex_n R) (ex_w R) (ex_L id R) kd vl ta fo be ac follow bearing accepting → (x = -1 → post 0 (nI (ex_n R), latestPlace, nI (ex_w R), fr, elementCount, draftKind, draftValue, wt, ta, fb, ff, fl, fe, rw, fo, be, ac, kindOfType, leastOf, greatestOf, listedCount, listedValue, attributeUse, attributeType, typeOfName, inUse, nameOf, parentOf, kidCount, kids, hasValue, valueOf, hasAttribute, attributeValue, walked, waiting)) ∧ (¬ x = -1 → post 7 (nI (ex_n R), x, nI (ex_w R), fr, elementCount, draftKind, draftValue, wt, ta, fb, ff, fl, fe, rw, fo, be, ac, kindOfType, leastOf, greatestOf, listedCount, listedValue, attributeUse, attributeType, typeOfName, inUse, nameOf, parentOf, kidCount, kids, hasValue, valueOf, hasAttribute, attributeValue, walked, waiting))) : wpX_judgeDraft post (nI (ex_n R), latestPlace, positions, fragments, elementCount, draftKind, draftValue, weights, tokenAt, fragmentBegin, fragmentFirst, fragmentLast, fragmentEmpty, reachedWith, follow, bearing, accepting, kindOfType, leastOf, greatestOf, listedCount, listedValue, attributeUse, attributeType, typeOfName, inUse, nameOf, parentOf, kidCount, kids, hasValue, valueOf, hasAttribute, attributeValue, walked, waiting) := by
  unfold wpX_judgeDraft
  refine sx_isOne (kd := kd) hd (fun i hi => ⟨(hk i hi).1, (hk i hi).2.1⟩) (fun _ => br_f nb_10 ?_) (fun q => absurd hsc q)
  refine sx_draftWeight (kd := kd) (vl := vl) hd (fun i hi => ⟨(hk i hi).1, (hk i hi).2.1, fun q => ⟨(hk i hi).2.2.2.2 (Or.inr q), ((hk i hi).2.2.2.1 q).1⟩⟩) hS (fun wt => br_t (nI_le (b := 30) hw (by omega)) ?_)
  refine sx_build (kd := kd) (vl := vl) hd hk hS hW hw (fun fr ta fb ff fl fe fo be ac D => ?_)
  obtain ⟨A, em, gF, gz, ga, ge, gb, f1, f2, f3, gt⟩ := D
  have G : pr_G (ex_n R) (ex_w R) kd vl ta fo be := ⟨hw, hd, gF.1, gF.2.2.1, gz, gb, gt⟩
  refine sx_pairStates (kd := kd) (vl := vl) (d := ex_n R) (W := ex_w R) (tokenAt := ta) (follow := fo) (bearing := be) hk G (fun rw hr => ?_)
  refine sx_least (kd := kd) (vl := vl) (d := ex_n R) (W := ex_w R) (tokenAt := ta) (follow := fo) (bearing := be) (reachedWith := rw) G hr (fun x hx => ?_)
  refine h x fr wt ta fb ff fl fe rw fo be ac (cf_iff (fun a b => ?_) hx) ⟨A, em, gF, gz, ga, ge, gb, f1, f2, f3, gt⟩
  rw [← gl_pairs gF (g := vl) (nm := pr_n ta vl) (fun p _ => rfl) a b]
  constructor
  · rintro ⟨p, q, ⟨k, hk'⟩, ea, eb⟩; exact ⟨k, p, q, hk', ea, eb⟩
  · rintro ⟨k, p, q, hk', ea, eb⟩; exact ⟨p, q, ⟨k, hk'⟩, ea, eb⟩
end
