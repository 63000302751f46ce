/-! ===== the component's fragments: link, chain, unite, a copy ===== -/
def xb_g (ta fo : Nat → Int32) (lo hi : Nat) (F Λ E : Int32) (L : List Nat → Prop) : Prop := gl_F (fun p q => bt (fo (186 + p)) q = true) (fun p => (ta p).toNatClampNeg) (fun p => lo ≤ p ∧ p < hi) (fun q => bt F q = true) (fun q => bt Λ q = true) (E ≠ 0) L
theorem xb_cg {ta fo ta' fo' : Nat → Int32} {lo hi : Nat} {F Λ E : Int32} {L : List Nat → Prop} (h : xb_g ta fo lo hi F Λ E L) (h1 : ∀ p, lo ≤ p → p < hi → ta' p = ta p ∧ fo' (186 + p) = fo (186 + p)) : xb_g ta' fo' lo hi F Λ E L := by
  refine gl_F_cg h (fun p q hp => ?_) (fun p hp => ?_)
  · show bt (fo' (186 + p)) q = true ↔ bt (fo (186 + p)) q = true
    rw [(h1 p hp.1 hp.2).2]
  · show (ta' p).toNatClampNeg = (ta p).toNatClampNeg
    rw [(h1 p hp.1 hp.2).1]
theorem xb_L {ta fo : Nat → Int32} {lo hi : Nat} {F Λ E : Int32} {L L' : List Nat → Prop} (h : xb_g ta fo lo hi F Λ E L) (hL : ∀ u, L' u ↔ L u) : xb_g ta fo lo hi F Λ E L' := gl_F_eq h (fun _ => Iff.rfl) (fun _ => Iff.rfl) (fun _ => Iff.rfl) Iff.rfl hL
def lk_f (fo : Nat → Int32) (A B : Int32) (m : Nat) : Nat → Int32 := fun j => if 186 ≤ j ∧ j < 186 + m ∧ bt A (j - 186) = true then fo j ||| B else fo j
theorem lk_0 (fo : Nat → Int32) (A B : Int32) : lk_f fo A B 0 = fo := by
  funext j
  unfold lk_f
  rw [if_neg (by omega)]
theorem lk_t {fo : Nat → Int32} {A B : Int32} {m : Nat} (h : bt A m = true) : upd (lk_f fo A B m) (186 + m) (lk_f fo A B m (186 + m) ||| B) = lk_f fo A B (m + 1) := by
  funext j
  unfold upd
  by_cases e : j = 186 + m
  · rw [if_pos e, e]
    unfold lk_f
    rw [if_neg (by omega), if_pos ⟨by omega, by omega, by rw [show 186 + m - 186 = m by omega]; exact h⟩]
  · rw [if_neg e]
    unfold lk_f
    by_cases q : 186 ≤ j ∧ j < 186 + m ∧ bt A (j - 186) = true
    · rw [if_pos q, if_pos ⟨q.1, by omega, q.2.2⟩]
    · rw [if_neg q, if_neg (fun q' => q ⟨q'.1, by omega, q'.2.2⟩)]
theorem lk_n {fo : Nat → Int32} {A B : Int32} {m : Nat} (h : bt A m = false) : lk_f fo A B m = lk_f fo A B (m + 1) := by
  funext j
  unfold lk_f
  by_cases q : 186 ≤ j ∧ j < 186 + m ∧ bt A (j - 186) = true
  · rw [if_pos q, if_pos ⟨q.1, by omega, q.2.2⟩]
  · rw [if_neg q, if_neg (fun q' => by
      by_cases e : j = 186 + m
      · rw [e, show 186 + m - 186 = m by omega, h] at q'
        exact absurd q'.2.2 Bool.false_ne_true
      · exact q ⟨q'.1, by omega, q'.2.2⟩)]
theorem lk_I {fo : Nat → Int32} {A B : Int32} {p q : Nat} (hA : ∀ i, bt A i = true → i < 30) : bt (lk_f fo A B 30 (186 + p)) q = true ↔ bt (fo (186 + p)) q = true ∨ (bt A p = true ∧ bt B q = true) := by
  unfold lk_f
  by_cases h : 186 ≤ 186 + p ∧ 186 + p < 186 + 30 ∧ bt A (186 + p - 186) = true
  · rw [if_pos h, bb_orI]
    rw [show 186 + p - 186 = p by omega] at h
    constructor
    · rintro (r | r)
      · exact Or.inl r
      · exact Or.inr ⟨h.2.2, r⟩
    · rintro (r | r)
      · exact Or.inl r
      · exact Or.inr r.2
  · rw [if_neg h]
    constructor
    · exact Or.inl
    · rintro (r | r)
      · exact r
      · exfalso
        apply h
        rw [show 186 + p - 186 = p by omega]
        have := hA p r.1
        exact ⟨by omega, by omega, r.1⟩
theorem lk_out {fo : Nat → Int32} {A B : Int32} {j : Nat} (h : j < 186 ∨ bt A (j - 186) = false) : lk_f fo A B 30 j = fo j := by
  unfold lk_f
  rw [if_neg (fun q => by
    rcases h with h | h
    · omega
    · rw [h] at q; exact absurd q.2.2 Bool.false_ne_true)]
/-- a or, if e is not 0, a and b -/
def or_e (a b e : Int32) : Int32 := a ||| (if e = 0 then 0 else b)
theorem or_eI {a b e : Int32} {q : Nat} : bt (or_e a b e) q = true ↔ bt a q = true ∨ (e ≠ 0 ∧ bt b q = true) := by
  unfold or_e
  by_cases h : e = 0
  · rw [if_pos h, bb_orI, b_0]
    exact ⟨fun r => r.elim Or.inl (fun r => absurd r Bool.false_ne_true), fun r => r.elim Or.inl (fun r => absurd h r.1)⟩
  · rw [if_neg h, bb_orI]
    exact ⟨fun r => r.elim Or.inl (fun r => Or.inr ⟨h, r⟩), fun r => r.elim Or.inl (fun r => Or.inr r.2)⟩
def an_e (a b : Int32) : Int32 := if a = 0 then 0 else if b = 0 then 0 else 1
theorem an_eI (a b : Int32) : an_e a b ≠ 0 ↔ a ≠ 0 ∧ b ≠ 0 := by
  unfold an_e
  by_cases h : a = 0
  · rw [if_pos h]; exact ⟨fun r => absurd rfl r, fun r => absurd h r.1⟩
  · rw [if_neg h]
    by_cases h2 : b = 0
    · rw [if_pos h2]; exact ⟨fun r => absurd rfl r, fun r => absurd h2 r.2⟩
    · rw [if_neg h2]; exact ⟨fun _ => ⟨h, h2⟩, fun _ => nb_10⟩
theorem an_01 (a b : Int32) : an_e a b = 0 ∨ an_e a b = 1 := by unfold an_e; split; exact Or.inl rfl; split; exact Or.inl rfl; exact Or.inr rfl
def ow_e (a b : Int32) : Int32 := if a = 0 then (if b = 0 then 0 else 1) else 1
theorem ow_eI (a b : Int32) : ow_e a b ≠ 0 ↔ a ≠ 0 ∨ b ≠ 0 := by
  unfold ow_e
  by_cases h : a = 0
  · rw [if_pos h]
    by_cases h2 : b = 0
    · rw [if_pos h2]; exact ⟨fun r => absurd rfl r, fun r => r.elim (fun r => absurd h r) (fun r => absurd h2 r)⟩
    · rw [if_neg h2]; exact ⟨fun _ => Or.inr h2, fun _ => nb_10⟩
  · rw [if_neg h]; exact ⟨fun _ => Or.inl h, fun _ => nb_10⟩
theorem ow_01 (a b : Int32) : ow_e a b = 0 ∨ ow_e a b = 1 := by unfold ow_e; split; split; exact Or.inl rfl; exact Or.inr rfl; exact Or.inr rfl
/-- a row moved up by s -/
def cp_a (g : Nat → Int32) (o b m s : Nat) (h : Int32 → Int32) : Nat → Int32 := fun j => if o + b + s ≤ j ∧ j < o + b + m + s then h (g (j - s)) else g j
theorem cp_0 (g : Nat → Int32) (o b s : Nat) (h : Int32 → Int32) : cp_a g o b 0 s h = g := by
  funext j
  unfold cp_a
  rw [if_neg (by omega)]
theorem cp_s {g : Nat → Int32} {o b m s : Nat} {h : Int32 → Int32} : upd (cp_a g o b m s h) (o + b + m + s) (h (g (o + b + m))) = cp_a g o b (m + 1) s h := by
  funext j
  unfold upd
  by_cases e : j = o + b + m + s
  · rw [if_pos e]
    unfold cp_a
    rw [if_pos (by omega), e, Nat.add_sub_cancel]
  · rw [if_neg e]
    unfold cp_a
    by_cases q : o + b + s ≤ j ∧ j < o + b + m + s
    · rw [if_pos q, if_pos (by omega)]
    · rw [if_neg q, if_neg (by omega)]
theorem cp_out {g : Nat → Int32} {o b m s : Nat} {h : Int32 → Int32} {j : Nat} (q : j < o + b + s ∨ o + b + m + s ≤ j) : cp_a g o b m s h j = g j := by
  unfold cp_a
  rw [if_neg (by omega)]
theorem cp_in {g : Nat → Int32} {o b m s : Nat} {h : Int32 → Int32} {j : Nat} (q1 : o + b ≤ j) (q2 : j < o + b + m) : cp_a g o b m s h (j + s) = h (g j) := by
  unfold cp_a
  rw [if_pos (by omega), Nat.add_sub_cancel]
section
variable {drafted latestPlace positions fragments elementCount : Int32} {draftKind draftValue weights tokenAt fragmentBegin fragmentFirst fragmentLast fragmentEmpty reachedWith follow bearing accepting kindOfType leastOf greatestOf listedCount listedValue attributeUse attributeType typeOfName inUse nameOf parentOf kidCount kids hasValue valueOf hasAttribute attributeValue walked waiting : Nat → Int32}
theorem sx_lnk2 {post : SX → Prop} {A B : Int32} (h : post (drafted, latestPlace, positions, fragments, elementCount, draftKind, draftValue, weights, tokenAt, fragmentBegin, fragmentFirst, fragmentLast, fragmentEmpty, reachedWith, lk_f follow A B 30, bearing, accepting, kindOfType, leastOf, greatestOf, listedCount, listedValue, attributeUse, attributeType, typeOfName, inUse, nameOf, parentOf, kidCount, kids, hasValue, valueOf, hasAttribute, attributeValue, walked, waiting)) : ∀ m i, i + m = 30 → wX_link_2 post A B drafted latestPlace positions fragments elementCount (m + 1) (nI i) draftKind draftValue weights tokenAt fragmentBegin fragmentFirst fragmentLast fragmentEmpty reachedWith (lk_f follow A B i) bearing accepting kindOfType leastOf greatestOf listedCount listedValue attributeUse attributeType typeOfName inUse nameOf parentOf kidCount kids hasValue valueOf hasAttribute attributeValue walked waiting := by
  intro m
  induction m with
  | zero =>
    intro i hi
    obtain rfl : i = 30 := by omega
    exact br_t (by decide) h
  | succ m ih =>
    intro i hi
    have ih' := ih (i + 1) (by omega)
    refine br_f (nI_ge (b := 30) (by omega) (by omega)) ?_
    cases hb : bt A i with
    | false =>
      rw [← lk_n hb] at ih'
      exact br_t ((bb_t A (by omega)).mpr hb) (nm_r (nI_1 i) ih')
    | true =>
      rw [← lk_t hb] at ih'
      refine br_f ((bb_t' A (by omega)).mpr hb) ?_
      rw [show (186 : Int32) + nI i = nI (186 + i) from nI_add 186 i, nb_cl (by omega)]
      exact ⟨vp_in_nI (by omega) (by omega), vp_in_nI (by omega) (by omega), nm_e (nm_r (nI_1 i) ih')⟩
theorem sx_link {post : SX → Prop} {A B : Int32} (h : post (drafted, latestPlace, positions, fragments, elementCount, draftKind, draftValue, weights, tokenAt, fragmentBegin, fragmentFirst, fragmentLast, fragmentEmpty, reachedWith, lk_f follow A B 30, bearing, accepting, kindOfType, leastOf, greatestOf, listedCount, listedValue, attributeUse, attributeType, typeOfName, inUse, nameOf, parentOf, kidCount, kids, hasValue, valueOf, hasAttribute, attributeValue, walked, waiting)) : wpX_link post (drafted, latestPlace, positions, fragments, elementCount, draftKind, draftValue, weights, tokenAt, fragmentBegin, fragmentFirst, fragmentLast, fragmentEmpty, reachedWith, follow, bearing, accepting, kindOfType, leastOf, greatestOf, listedCount, listedValue, attributeUse, attributeType, typeOfName, inUse, nameOf, parentOf, kidCount, kids, hasValue, valueOf, hasAttribute, attributeValue, walked, waiting) A B := by
  refine ⟨31, ?_⟩
  have := sx_lnk2 h 30 0 (by omega)
  rw [lk_0] at this
  exact this
theorem sx_chain {post : SX → Prop} {hd tl into : Nat} (h1 : hd < 18) (h2 : tl < 18) (h3 : into < 18) (h : post (drafted, latestPlace, positions, fragments, elementCount, draftKind, draftValue, weights, tokenAt, fragmentBegin, upd fragmentFirst into (or_e (fragmentFirst hd) (fragmentFirst tl) (fragmentEmpty hd)), upd fragmentLast into (or_e (fragmentLast tl) (fragmentLast hd) (fragmentEmpty tl)), upd fragmentEmpty into (an_e (fragmentEmpty hd) (fragmentEmpty tl)), reachedWith, lk_f follow (fragmentLast hd) (fragmentFirst tl) 30, bearing, accepting, kindOfType, leastOf, greatestOf, listedCount, listedValue, attributeUse, attributeType, typeOfName, inUse, nameOf, parentOf, kidCount, kids, hasValue, valueOf, hasAttribute, attributeValue, walked, waiting)) : wpX_chain post (drafted, latestPlace, positions, fragments, elementCount, draftKind, draftValue, weights, tokenAt, fragmentBegin, fragmentFirst, fragmentLast, fragmentEmpty, reachedWith, follow, bearing, accepting, kindOfType, leastOf, greatestOf, listedCount, listedValue, attributeUse, attributeType, typeOfName, inUse, nameOf, parentOf, kidCount, kids, hasValue, valueOf, hasAttribute, attributeValue, walked, waiting) (nI hd) (nI tl) (nI into) := by
  have v1 : vp_in (nI hd) 18 := vp_in_nI h1 (by omega)
  have v2 : vp_in (nI tl) 18 := vp_in_nI h2 (by omega)
  have v3 : vp_in (nI into) 18 := vp_in_nI h3 (by omega)
  have c1 : (nI hd).toNatClampNeg = hd := nb_cl (by omega)
  have c2 : (nI tl).toNatClampNeg = tl := nb_cl (by omega)
  have c3 : (nI into).toNatClampNeg = into := nb_cl (by omega)
  unfold wpX_chain
  dsimp only
  rw [c1, c2]
  refine ⟨v1, v2, sx_link ⟨v1, v1, ?_⟩⟩
  have t69 : ∀ (x4 z0 z1 : Int32), x4 = or_e (fragmentFirst hd) (fragmentFirst tl) (fragmentEmpty hd) → z1 ||| z0 = or_e (fragmentLast tl) (fragmentLast hd) (fragmentEmpty tl) → wX_chain_69 post (nI hd) (nI tl) (nI into) x4 z0 z1 drafted latestPlace positions fragments elementCount draftKind draftValue weights tokenAt fragmentBegin fragmentFirst fragmentLast fragmentEmpty reachedWith (lk_f follow (fragmentLast hd) (fragmentFirst tl) 30) bearing accepting kindOfType leastOf greatestOf listedCount listedValue attributeUse attributeType typeOfName inUse nameOf parentOf kidCount kids hasValue valueOf hasAttribute attributeValue walked waiting := by
    intro x4 z0 z1 e1 e2
    refine nm_r e2 ⟨v3, nm_r (e' := upd fragmentFirst into (or_e (fragmentFirst hd) (fragmentFirst tl) (fragmentEmpty hd))) (by rw [c3, e1]) ⟨v3, nm_r (e' := upd fragmentLast into (or_e (fragmentLast tl) (fragmentLast hd) (fragmentEmpty tl))) (by rw [c3]) ⟨v1, ?_⟩⟩⟩
    rw [c1, c2, c3]
    by_cases q1 : fragmentEmpty hd = 0
    · refine br_t q1 ⟨v3, nm_r (e' := upd fragmentEmpty into (an_e (fragmentEmpty hd) (fragmentEmpty tl))) (by rw [nb_b0, show an_e (fragmentEmpty hd) (fragmentEmpty tl) = 0 from if_pos q1]) h⟩
    · by_cases q2 : fragmentEmpty tl = 0
      · exact br_f q1 ⟨v2, br_t q2 ⟨v3, nm_r (e' := upd fragmentEmpty into (an_e (fragmentEmpty hd) (fragmentEmpty tl))) (by rw [nb_b0]; unfold an_e; rw [if_neg q1, if_pos q2]) h⟩⟩
      · exact br_f q1 ⟨v2, br_f q2 ⟨v3, nm_r (e' := upd fragmentEmpty into (an_e (fragmentEmpty hd) (fragmentEmpty tl))) (by rw [nb_b1]; unfold an_e; rw [if_neg q1, if_neg q2]) h⟩⟩
  have t41 : ∀ (z0 z1 : Int32), z1 ||| z0 = or_e (fragmentFirst hd) (fragmentFirst tl) (fragmentEmpty hd) → wX_chain_41 post (nI hd) (nI tl) (nI into) z0 z1 drafted latestPlace positions fragments elementCount draftKind draftValue weights tokenAt fragmentBegin fragmentFirst fragmentLast fragmentEmpty reachedWith (lk_f follow (fragmentLast hd) (fragmentFirst tl) 30) bearing accepting kindOfType leastOf greatestOf listedCount listedValue attributeUse attributeType typeOfName inUse nameOf parentOf kidCount kids hasValue valueOf hasAttribute attributeValue walked waiting := by
    intro z0 z1 e1
    refine nm_r e1 ⟨v2, v2, ?_⟩
    rw [c1, c2]
    by_cases q2 : fragmentEmpty tl = 0
    · exact br_t q2 (t69 _ _ _ rfl (by unfold or_e; rw [if_pos q2]))
    · exact br_f q2 ⟨v1, t69 _ _ _ rfl (by unfold or_e; rw [if_neg q2])⟩
  by_cases q1 : fragmentEmpty hd = 0
  · exact br_t q1 (t41 _ _ (by unfold or_e; rw [if_pos q1]))
  · exact br_f q1 ⟨v2, t41 _ _ (by unfold or_e; rw [if_neg q1])⟩
theorem sx_unite {post : SX → Prop} {into oth : Nat} (h1 : into < 18) (h2 : oth < 18) (h : post (drafted, latestPlace, positions, fragments, elementCount, draftKind, draftValue, weights, tokenAt, fragmentBegin, upd fragmentFirst into (fragmentFirst into ||| fragmentFirst oth), upd fragmentLast into (fragmentLast into ||| fragmentLast oth), upd fragmentEmpty into (ow_e (fragmentEmpty into) (fragmentEmpty oth)), reachedWith, follow, bearing, accepting, kindOfType, leastOf, greatestOf, listedCount, listedValue, attributeUse, attributeType, typeOfName, inUse, nameOf, parentOf, kidCount, kids, hasValue, valueOf, hasAttribute, attributeValue, walked, waiting)) : wpX_unite post (drafted, latestPlace, positions, fragments, elementCount, draftKind, draftValue, weights, tokenAt, fragmentBegin, fragmentFirst, fragmentLast, fragmentEmpty, reachedWith, follow, bearing, accepting, kindOfType, leastOf, greatestOf, listedCount, listedValue, attributeUse, attributeType, typeOfName, inUse, nameOf, parentOf, kidCount, kids, hasValue, valueOf, hasAttribute, attributeValue, walked, waiting) (nI into) (nI oth) := by
  have v1 : vp_in (nI into) 18 := vp_in_nI h1 (by omega)
  have v2 : vp_in (nI oth) 18 := vp_in_nI h2 (by omega)
  have c1 : (nI into).toNatClampNeg = into := nb_cl (by omega)
  have c2 : (nI oth).toNatClampNeg = oth := nb_cl (by omega)
  unfold wpX_unite
  dsimp only
  rw [c1, c2]
  refine ⟨v1, v2, v1, nm_e ⟨v1, v2, v1, nm_e ⟨v1, ?_⟩⟩⟩
  by_cases q1 : fragmentEmpty into = 0
  · by_cases q2 : fragmentEmpty oth = 0
    · exact br_t q1 ⟨v2, br_t q2 ⟨v1, nm_r (by rw [nb_b0, show (0 : Int32) = ow_e (fragmentEmpty into) (fragmentEmpty oth) by unfold ow_e; rw [if_pos q1, if_pos q2]]) h⟩⟩
    · exact br_t q1 ⟨v2, br_f q2 ⟨v1, nm_r (by rw [nb_b1, show (1 : Int32) = ow_e (fragmentEmpty into) (fragmentEmpty oth) by unfold ow_e; rw [if_pos q1, if_neg q2]]) h⟩⟩
  · exact br_f q1 ⟨v1, nm_r (by rw [nb_b1, show (1 : Int32) = ow_e (fragmentEmpty into) (fragmentEmpty oth) by unfold ow_e; rw [if_neg q1]]) h⟩
theorem sx_pc118 {post : SX → Prop} {lo hi s P : Nat} (hlo : lo ≤ hi) (hs : hi ≤ lo + s) (h30 : hi + s ≤ 30) (h : post (drafted, latestPlace, nI (P + (hi - lo)), fragments, elementCount, draftKind, draftValue, weights, cp_a tokenAt 0 lo (hi - lo) s (fun z => z), fragmentBegin, fragmentFirst, fragmentLast, fragmentEmpty, reachedWith, cp_a follow 186 lo (hi - lo) s (fun z => z <<< (nI s &&& 31)), bearing, accepting, kindOfType, leastOf, greatestOf, listedCount, listedValue, attributeUse, attributeType, typeOfName, inUse, nameOf, parentOf, kidCount, kids, hasValue, valueOf, hasAttribute, attributeValue, walked, waiting)) : ∀ m c, c + m = hi - lo → wX_pushCopy_118 post (nI lo) (nI hi) (nI s) drafted latestPlace (nI P) fragments elementCount (m + 1) (nI (lo + c)) draftKind draftValue weights (cp_a tokenAt 0 lo c s (fun z => z)) fragmentBegin fragmentFirst fragmentLast fragmentEmpty reachedWith (cp_a follow 186 lo c s (fun z => z <<< (nI s &&& 31))) bearing accepting kindOfType leastOf greatestOf listedCount listedValue attributeUse attributeType typeOfName inUse nameOf parentOf kidCount kids hasValue valueOf hasAttribute attributeValue walked waiting := by
  intro m
  induction m with
  | zero =>
    intro c hc
    obtain rfl : c = hi - lo := by omega
    refine br_t (nI_le (by omega) (by omega)) (nm_r (e' := nI (P + (hi - lo))) ?_ h)
    rw [pk_sub hlo, nI_add]
  | succ m ih =>
    intro c hc
    refine br_f (nI_ge (by omega) (by omega)) ?_
    have e1 : nI (lo + c) + nI s = nI (lo + c + s) := nI_add _ _
    have e2 : (186 : Int32) + nI (lo + c) = nI (186 + (lo + c)) := nI_add 186 _
    have e3 : nI (186 + (lo + c)) + nI s = nI (186 + (lo + c) + s) := nI_add _ _
    rw [e1, e2, e3, nb_cl (n := lo + c) (by omega), nb_cl (n := lo + c + s) (by omega), nb_cl (n := 186 + (lo + c)) (by omega), nb_cl (n := 186 + (lo + c) + s) (by omega)]
    have o1 : cp_a tokenAt 0 lo c s (fun z => z) (lo + c) = tokenAt (lo + c) := cp_out (by omega)
    have o2 : cp_a follow 186 lo c s (fun z => z <<< (nI s &&& 31)) (186 + (lo + c)) = follow (186 + (lo + c)) := cp_out (by omega)
    rw [o1, o2]
    refine ⟨vp_in_nI (by omega) (by omega), vp_in_nI (by omega) (by omega), nm_r (e' := cp_a tokenAt 0 lo (c + 1) s (fun z => z)) ?_ ⟨vp_in_nI (by omega) (by omega), vp_in_nI (by omega) (by omega), nm_r (e' := cp_a follow 186 lo (c + 1) s (fun z => z <<< (nI s &&& 31))) ?_ (nm_r (nI_1 _) (ih (c + 1) (by omega)))⟩⟩
    · have := cp_s (g := tokenAt) (o := 0) (b := lo) (m := c) (s := s) (h := fun z => z)
      rw [show 0 + lo + c = lo + c by omega] at this
      exact this
    · have := cp_s (g := follow) (o := 186) (b := lo) (m := c) (s := s) (h := fun z => z <<< (nI s &&& 31))
      rw [show 186 + lo + c = 186 + (lo + c) by omega] at this
      exact this
theorem sx_pushCopy {post : SX → Prop} {j F lo hi P : Nat} (hj : j < F) (hF : F < 18) (hlo : lo ≤ hi) (hP : hi ≤ P) (h30 : P + (hi - lo) ≤ 30) (hb : fragmentBegin j = nI lo) (he : (F ≤ j + 1 ∧ P = hi) ∨ (j + 1 < F ∧ fragmentBegin (j + 1) = nI hi)) (hfe : fragmentEmpty j = 0 ∨ fragmentEmpty j = 1) (h : post (drafted, latestPlace, nI (P + (hi - lo)), nI (F + 1), elementCount, draftKind, draftValue, weights, cp_a tokenAt 0 lo (hi - lo) (P - lo) (fun z => z), upd fragmentBegin F (nI P), upd fragmentFirst F (fragmentFirst j <<< (nI (P - lo) &&& 31)), upd fragmentLast F (fragmentLast j <<< (nI (P - lo) &&& 31)), upd fragmentEmpty F (fragmentEmpty j), reachedWith, cp_a follow 186 lo (hi - lo) (P - lo) (fun z => z <<< (nI (P - lo) &&& 31)), bearing, accepting, kindOfType, leastOf, greatestOf, listedCount, listedValue, attributeUse, attributeType, typeOfName, inUse, nameOf, parentOf, kidCount, kids, hasValue, valueOf, hasAttribute, attributeValue, walked, waiting)) : wpX_pushCopy post (drafted, latestPlace, nI P, nI F, elementCount, draftKind, draftValue, weights, tokenAt, fragmentBegin, fragmentFirst, fragmentLast, fragmentEmpty, reachedWith, follow, bearing, accepting, kindOfType, leastOf, greatestOf, listedCount, listedValue, attributeUse, attributeType, typeOfName, inUse, nameOf, parentOf, kidCount, kids, hasValue, valueOf, hasAttribute, attributeValue, walked, waiting) (nI j) := by
  have vj : vp_in (nI j) 18 := vp_in_nI (by omega) (by omega)
  have vF : vp_in (nI F) 18 := vp_in_nI hF (by omega)
  have cj : (nI j).toNatClampNeg = j := nb_cl (by omega)
  have cF : (nI F).toNatClampNeg = F := nb_cl (by omega)
  have eb : vp_nar .boolean (fragmentEmpty j) = fragmentEmpty j := by rcases hfe with q | q <;> rw [q] <;> decide
  have t32 : wX_pushCopy_32 post (nI j) (nI lo) (nI hi) drafted latestPlace (nI P) (nI F) elementCount draftKind draftValue weights tokenAt fragmentBegin fragmentFirst fragmentLast fragmentEmpty reachedWith follow bearing accepting kindOfType leastOf greatestOf listedCount listedValue attributeUse attributeType typeOfName inUse nameOf parentOf kidCount kids hasValue valueOf hasAttribute attributeValue walked waiting := by
    refine nm_r (e' := nI (P - lo)) (pk_sub (by omega)) ⟨vF, nm_r (e' := upd fragmentBegin F (nI P)) (by rw [cF]) ⟨vj, vF, nm_r (e' := upd fragmentFirst F (fragmentFirst j <<< (nI (P - lo) &&& 31))) (by rw [cF, cj]) ⟨vj, vF, nm_r (e' := upd fragmentLast F (fragmentLast j <<< (nI (P - lo) &&& 31))) (by rw [cF, cj]) ⟨vj, vF, nm_r (e' := upd fragmentEmpty F (fragmentEmpty j)) (by rw [cF, cj, eb]) (nm_r (nI_1 F) ⟨hi - lo + 1, ?_⟩)⟩⟩⟩⟩
    have := sx_pc118 (lo := lo) (hi := hi) (s := P - lo) (P := P) hlo (by omega) (by omega) h (hi - lo) 0 (by omega)
    rw [cp_0, cp_0, Nat.add_zero] at this
    exact this
  refine ⟨vj, nm_r (e' := nI lo) (by rw [cj, hb]) ?_⟩
  rw [nI_1, nb_cl (n := j + 1) (by omega)]
  rcases he with ⟨q1, q2⟩ | ⟨q1, q2⟩
  · refine br_t (nI_le q1 (by omega)) ?_
    rw [q2]
    rw [q2] at t32
    exact t32
  · refine br_f (nI_ge q1 (by omega)) ⟨vp_in_nI (by omega) (by omega), ?_⟩
    rw [q2]
    exact t32
end
/-- the copy of a fragment is one -/
theorem xb_copy {ta fo : Nat → Int32} {lo hi s : Nat} {F Λ E : Int32} {L : List Nat → Prop} (h : xb_g ta fo lo hi F Λ E L) (hlo : lo ≤ hi) (hs : hi ≤ lo + s) (h30 : hi + s ≤ 30) : xb_g (cp_a ta 0 lo (hi - lo) s (fun z => z)) (cp_a fo 186 lo (hi - lo) s (fun z => z <<< (nI s &&& 31))) (lo + s) (hi + s) (F <<< (nI s &&& 31)) (Λ <<< (nI s &&& 31)) E L := by
  have sh : ∀ (X : Int32), (∀ q, bt X q = true → q < hi) → ∀ q, bt (X <<< (nI s &&& 31)) q = true ↔ ∃ p, q = p + s ∧ bt X p = true := by
    intro X hX q
    by_cases q32 : q < 32
    · exact bb_shlI (by omega) q32
    · rw [b_big (by omega)]
      constructor
      · intro r; cases r
      · rintro ⟨p, e, r⟩
        have := hX p r
        omega
  refine gl_shift s h (fun q => ?_) (sh F (fun q r => (h.1 q r).2)) (sh Λ (fun q r => (h.2.1 q r).2)) (fun p hp => ?_) (fun p q hp => ?_)
  · constructor
    · rintro ⟨r1, r2⟩; exact ⟨q - s, by omega, by omega, by omega⟩
    · rintro ⟨p, e, r1, r2⟩; exact ⟨by omega, by omega⟩
  · show (cp_a ta 0 lo (hi - lo) s (fun z => z) (p + s)).toNatClampNeg = (ta p).toNatClampNeg
    rw [cp_in (by omega) (by omega)]
  · show bt (cp_a fo 186 lo (hi - lo) s (fun z => z <<< (nI s &&& 31)) (186 + (p + s))) q = true ↔ _
    rw [show 186 + (p + s) = 186 + p + s by omega, cp_in (by omega) (by omega)]
    exact sh (fo (186 + p)) (fun q r => (h.2.2.1 p q hp r).2) q
/-- one after the other -/
theorem xb_seq {ta fo : Nat → Int32} {l1 h1 l2 h2 lo hi : Nat} {F1 A1 E1 F2 A2 E2 : Int32} {L1 L2 : List Nat → Prop} (g1 : xb_g ta fo l1 h1 F1 A1 E1 L1) (g2 : xb_g ta fo l2 h2 F2 A2 E2 L2) (hd : (h1 ≤ l2 ∧ lo = l1 ∧ hi = h2 ∧ h1 = l2) ∨ (h2 ≤ l1 ∧ lo = l2 ∧ hi = h1 ∧ h2 = l1)) (o1 : l1 ≤ h1) (o2 : l2 ≤ h2) (h30 : h1 ≤ 30) (hne : ∃ u, L2 u) : xb_g ta (lk_f fo A1 F2 30) lo hi (or_e F1 F2 E1) (or_e A2 A1 E2) (an_e E1 E2) (ex_cat L1 L2) := by
  refine gl_F_eq (gl_seq g1 g2 (fun p r1 r2 => by omega) hne (φ' := fun p q => bt (lk_f fo A1 F2 30 (186 + p)) q = true) (fun p q => lk_I (fun i r => by have := (g1.2.1 i r).2; omega))) (fun p => by omega) (fun q => or_eI) (fun q => or_eI) (an_eI E1 E2) (fun u => Iff.rfl)
theorem xb_alt {ta fo : Nat → Int32} {l1 h1 l2 h2 lo hi : Nat} {F1 A1 E1 F2 A2 E2 : Int32} {L1 L2 : List Nat → Prop} (g1 : xb_g ta fo l1 h1 F1 A1 E1 L1) (g2 : xb_g ta fo l2 h2 F2 A2 E2 L2) (hd : (lo = l1 ∧ hi = h2 ∧ h1 = l2) ∨ (lo = l2 ∧ hi = h1 ∧ h2 = l1)) (o1 : l1 ≤ h1) (o2 : l2 ≤ h2) : xb_g ta fo lo hi (F1 ||| F2) (A1 ||| A2) (ow_e E1 E2) (fun u => L1 u ∨ L2 u) :=
  gl_F_eq (gl_alt g1 g2 (fun p r1 r2 => by omega)) (fun p => by omega) (fun q => bb_orI) (fun q => bb_orI) (ow_eI E1 E2) (fun u => Iff.rfl)
