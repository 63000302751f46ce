/-! ===== the component's automaton of a draft ===== -/
/-- a fragment f of W positions from P on spells L; the rest as it was -/
def xb_Q (d : Nat) (kd : Nat → Nat) (W : Nat) (L : List Nat → Prop) (f P : Nat) (ta fb ff fl fe fo ta' fb' ff' fl' fe' fo' : Nat → Int32) : Prop := fb' f = nI P ∧ (fe' f = 0 ∨ fe' f = 1) ∧ xb_g ta' fo' P (P + W) (ff' f) (fl' f) (fe' f) L ∧ xf_R d kd f P (P + W) ta fb ff fl fe fo ta' fb' ff' fl' fe' fo'
section
variable {drafted latestPlace positions fragments elementCount : Int32} {draftKind draftValue weights tokenAt fragmentBegin fragmentFirst fragmentLast fragmentEmpty reachedWith follow bearing accepting kindOfType leastOf greatestOf listedCount listedValue attributeUse attributeType typeOfName inUse nameOf parentOf kidCount kids hasValue valueOf hasAttribute attributeValue walked waiting : Nat → Int32}
theorem sx_leafN {post : SX → Prop} {b f P : Nat} (hb : b < 16) (hf : f < 18) (hP : P < 30) (hk : draftKind b = nI 0) (h : post (drafted, latestPlace, nI (P + 1), nI (f + 1), elementCount, draftKind, draftValue, weights, upd tokenAt P (nI b), upd fragmentBegin f (nI P), upd fragmentFirst f ((1 : Int32) <<< (nI P &&& 31)), upd fragmentLast f ((1 : Int32) <<< (nI P &&& 31)), upd fragmentEmpty f 0, reachedWith, follow, bearing, accepting, kindOfType, leastOf, greatestOf, listedCount, listedValue, attributeUse, attributeType, typeOfName, inUse, nameOf, parentOf, kidCount, kids, hasValue, valueOf, hasAttribute, attributeValue, walked, waiting)) : wpX_pushLeaf post (drafted, latestPlace, nI P, nI f, elementCount, draftKind, draftValue, weights, tokenAt, fragmentBegin, fragmentFirst, fragmentLast, fragmentEmpty, reachedWith, follow, bearing, accepting, kindOfType, leastOf, greatestOf, listedCount, listedValue, attributeUse, attributeType, typeOfName, inUse, nameOf, parentOf, kidCount, kids, hasValue, valueOf, hasAttribute, attributeValue, walked, waiting) (nI b) := by
  have vf : vp_in (nI f) 18 := vp_in_nI hf (by omega)
  have cf : (nI f).toNatClampNeg = f := nb_cl (by omega)
  refine ⟨vp_in_nI hb (by omega), br_f (by rw [nb_cl (by omega), hk]; decide) (br_t rfl ⟨vf, nm_r (e' := upd fragmentBegin f (nI P)) (by rw [cf]) ⟨vf, nm_r (e' := upd fragmentFirst f ((1 : Int32) <<< (nI P &&& 31))) (by rw [cf]) ⟨vf, nm_r (e' := upd fragmentLast f ((1 : Int32) <<< (nI P &&& 31))) (by rw [cf]) ⟨vf, nm_r (e' := upd fragmentEmpty f 0) (by rw [cf, nb_b0]) (nm_r (nI_1 f) (br_t rfl ⟨vp_in_nI hP (by omega), nm_r (e' := upd tokenAt P (nI b)) (by rw [nb_cl (by omega)]) (nm_r (nI_1 P) h)⟩))⟩⟩⟩⟩)⟩
theorem sx_leafE {post : SX → Prop} {b f P : Nat} (hb : b < 16) (hf : f < 18) (hk : draftKind b = nI 6) (h : post (drafted, latestPlace, nI P, nI (f + 1), elementCount, draftKind, draftValue, weights, tokenAt, upd fragmentBegin f (nI P), upd fragmentFirst f 0, upd fragmentLast f 0, upd fragmentEmpty f 1, reachedWith, follow, bearing, accepting, kindOfType, leastOf, greatestOf, listedCount, listedValue, attributeUse, attributeType, typeOfName, inUse, nameOf, parentOf, kidCount, kids, hasValue, valueOf, hasAttribute, attributeValue, walked, waiting)) : wpX_pushLeaf post (drafted, latestPlace, nI P, nI f, elementCount, draftKind, draftValue, weights, tokenAt, fragmentBegin, fragmentFirst, fragmentLast, fragmentEmpty, reachedWith, follow, bearing, accepting, kindOfType, leastOf, greatestOf, listedCount, listedValue, attributeUse, attributeType, typeOfName, inUse, nameOf, parentOf, kidCount, kids, hasValue, valueOf, hasAttribute, attributeValue, walked, waiting) (nI b) := by
  have vf : vp_in (nI f) 18 := vp_in_nI hf (by omega)
  have cf : (nI f).toNatClampNeg = f := nb_cl (by omega)
  refine ⟨vp_in_nI hb (by omega), br_t (by rw [nb_cl (by omega), hk]; rfl) (br_f nb_10 ⟨vf, nm_r (e' := upd fragmentBegin f (nI P)) (by rw [cf]) ⟨vf, nm_r (e' := upd fragmentFirst f 0) (by rw [cf]) ⟨vf, nm_r (e' := upd fragmentLast f 0) (by rw [cf]) ⟨vf, nm_r (e' := upd fragmentEmpty f 1) (by rw [cf, nb_b1]) (nm_r (nI_1 f) (br_f nb_10 h))⟩⟩⟩⟩)⟩
theorem sx_rep3 {post : SX → Prop} {f : Nat} (hf : f < 18) (h : post (drafted, latestPlace, positions, nI (f + 1), elementCount, draftKind, draftValue, weights, tokenAt, fragmentBegin, fragmentFirst, fragmentLast, upd fragmentEmpty f 1, reachedWith, follow, bearing, accepting, kindOfType, leastOf, greatestOf, listedCount, listedValue, attributeUse, attributeType, typeOfName, inUse, nameOf, parentOf, kidCount, kids, hasValue, valueOf, hasAttribute, attributeValue, walked, waiting)) : wpX_repeatTop post (drafted, latestPlace, positions, nI (f + 1), elementCount, draftKind, draftValue, weights, tokenAt, fragmentBegin, fragmentFirst, fragmentLast, fragmentEmpty, reachedWith, follow, bearing, accepting, kindOfType, leastOf, greatestOf, listedCount, listedValue, attributeUse, attributeType, typeOfName, inUse, nameOf, parentOf, kidCount, kids, hasValue, valueOf, hasAttribute, attributeValue, walked, waiting) (nI 3) :=
  nm_r (e' := nI f) (nb_s1 (by omega)) (br_f (by decide) (br_f (by decide) (br_f (by decide) (br_t rfl ⟨vp_in_nI hf (by omega), nm_r (e' := upd fragmentEmpty f 1) (by rw [nb_cl (by omega), nb_b1]) h⟩))))
theorem sx_rep4 {post : SX → Prop} {f : Nat} (hf : f < 18) (h : post (drafted, latestPlace, positions, nI (f + 1), elementCount, draftKind, draftValue, weights, tokenAt, fragmentBegin, fragmentFirst, fragmentLast, upd fragmentEmpty f 1, reachedWith, lk_f follow (fragmentLast f) (fragmentFirst f) 30, bearing, accepting, kindOfType, leastOf, greatestOf, listedCount, listedValue, attributeUse, attributeType, typeOfName, inUse, nameOf, parentOf, kidCount, kids, hasValue, valueOf, hasAttribute, attributeValue, walked, waiting)) : wpX_repeatTop post (drafted, latestPlace, positions, nI (f + 1), elementCount, draftKind, draftValue, weights, tokenAt, fragmentBegin, fragmentFirst, fragmentLast, fragmentEmpty, reachedWith, follow, bearing, accepting, kindOfType, leastOf, greatestOf, listedCount, listedValue, attributeUse, attributeType, typeOfName, inUse, nameOf, parentOf, kidCount, kids, hasValue, valueOf, hasAttribute, attributeValue, walked, waiting) (nI 4) := by
  have vf : vp_in (nI f) 18 := vp_in_nI hf (by omega)
  have cf : (nI f).toNatClampNeg = f := nb_cl (by omega)
  refine nm_r (e' := nI f) (nb_s1 (by omega)) (br_t rfl ⟨vf, vf, ?_⟩)
  rw [cf]
  exact sx_link (br_t rfl ⟨vf, nm_r (e' := upd fragmentEmpty f 1) (by rw [cf, nb_b1]) h⟩)
theorem sx_rep5 {post : SX → Prop} {f : Nat} (hf : f < 18) (h : post (drafted, latestPlace, positions, nI (f + 1), elementCount, draftKind, draftValue, weights, tokenAt, fragmentBegin, fragmentFirst, fragmentLast, fragmentEmpty, reachedWith, lk_f follow (fragmentLast f) (fragmentFirst f) 30, bearing, accepting, kindOfType, leastOf, greatestOf, listedCount, listedValue, attributeUse, attributeType, typeOfName, inUse, nameOf, parentOf, kidCount, kids, hasValue, valueOf, hasAttribute, attributeValue, walked, waiting)) : wpX_repeatTop post (drafted, latestPlace, positions, nI (f + 1), elementCount, draftKind, draftValue, weights, tokenAt, fragmentBegin, fragmentFirst, fragmentLast, fragmentEmpty, reachedWith, follow, bearing, accepting, kindOfType, leastOf, greatestOf, listedCount, listedValue, attributeUse, attributeType, typeOfName, inUse, nameOf, parentOf, kidCount, kids, hasValue, valueOf, hasAttribute, attributeValue, walked, waiting) (nI 5) := by
  have vf : vp_in (nI f) 18 := vp_in_nI hf (by omega)
  have cf : (nI f).toNatClampNeg = f := nb_cl (by omega)
  refine nm_r (e' := nI f) (nb_s1 (by omega)) (br_f (by decide) (br_t rfl ⟨vf, vf, ?_⟩))
  rw [cf]
  exact sx_link (br_f (by decide) (br_f (by decide) h))
/-- SEQ, CHOICE, BOTH: f holds the second part, f + 1 the first -/
theorem sx_join {post : SX → Prop} {d f P w1 w2 kk : Nat} {kd : Nat → Nat} {L1 L2 : List Nat → Prop} {ta0 fb0 ff0 fl0 fe0 fo0 ta fb ff fl fe fo : Nat → Int32} (hf : f + 4 ≤ 18) (hkk : kk = 1 ∨ kk = 2 ∨ kk = 7) (h30 : P + (if kk = 7 then 2 * (w1 + w2) else w1 + w2) ≤ 30) (hL1 : ∃ u, L1 u) (hL2 : ∃ u, L2 u)
    (b2 : fb f = nI P) (b1 : fb (f + 1) = nI (P + w2)) (e2 : fe f = 0 ∨ fe f = 1) (e1 : fe (f + 1) = 0 ∨ fe (f + 1) = 1) (g2 : xb_g ta fo P (P + w2) (ff f) (fl f) (fe f) L2) (g1 : xb_g ta fo (P + w2) (P + w2 + w1) (ff (f + 1)) (fl (f + 1)) (fe (f + 1)) L1) (hR : xf_R d kd f P (P + w2 + w1) ta0 fb0 ff0 fl0 fe0 fo0 ta fb ff fl fe fo)
    (h : ∀ ta' fb' ff' fl' fe' fo' : Nat → Int32, xb_Q d kd (if kk = 7 then 2 * (w1 + w2) else w1 + w2) (fun u => (kk = 1 ∧ ex_cat L1 L2 u) ∨ (kk = 2 ∧ (L1 u ∨ L2 u)) ∨ (kk = 7 ∧ (ex_cat L1 L2 u ∨ ex_cat L2 L1 u))) f P ta0 fb0 ff0 fl0 fe0 fo0 ta' fb' ff' fl' fe' fo' → post (drafted, latestPlace, nI (P + (if kk = 7 then 2 * (w1 + w2) else w1 + w2)), nI (f + 1), elementCount, draftKind, draftValue, weights, ta', fb', ff', fl', fe', reachedWith, fo', bearing, accepting, kindOfType, leastOf, greatestOf, listedCount, listedValue, attributeUse, attributeType, typeOfName, inUse, nameOf, parentOf, kidCount, kids, hasValue, valueOf, hasAttribute, attributeValue, walked, waiting)) :
    wpX_joinTopTwo post (drafted, latestPlace, nI (P + w2 + w1), nI (f + 2), elementCount, draftKind, draftValue, weights, ta, fb, ff, fl, fe, reachedWith, fo, bearing, accepting, kindOfType, leastOf, greatestOf, listedCount, listedValue, attributeUse, attributeType, typeOfName, inUse, nameOf, parentOf, kidCount, kids, hasValue, valueOf, hasAttribute, attributeValue, walked, waiting) (nI kk) := by
  have x2 : nI (f + 2) - 1 = nI (f + 1) := nb_s1 (by omega)
  have x3 : nI (f + 2) - 2 = nI f := pk_sub (a := f + 2) (b := 2) (by omega)
  refine nm_r x2 (nm_r x3 ?_)
  obtain ⟨r1, r2, r3, r4, r5⟩ := hR
  rcases hkk with rfl | rfl | rfl
  · simp only [show ¬ (1 : Nat) = 7 by omega, if_false] at h h30
    refine br_t rfl (sx_chain (hd := f + 1) (tl := f) (into := f) (fragmentFirst := ff) (fragmentLast := fl) (fragmentEmpty := fe) (follow := fo) (by omega) (by omega) (by omega) (nm_r (nI_1 f) ?_))
    have gs := xb_seq (lo := P) (hi := P + w2 + w1) g1 g2 (Or.inr ⟨by omega, rfl, rfl, rfl⟩) (by omega) (by omega) (by omega) hL2
    have hout : ∀ p, (p < P ∨ P + w2 + w1 ≤ p) → lk_f fo (fl (f + 1)) (ff f) 30 (186 + p) = fo (186 + p) := by
      intro p hp
      refine lk_out (Or.inr ?_)
      rw [show 186 + p - 186 = p by omega]
      cases hv : bt (fl (f + 1)) p with
      | false => rfl
      | true => have := g1.2.1 p hv; omega
    have hq := h ta fb (upd ff f (or_e (ff (f + 1)) (ff f) (fe (f + 1)))) (upd fl f (or_e (fl f) (fl (f + 1)) (fe f))) (upd fe f (an_e (fe (f + 1)) (fe f))) (lk_f fo (fl (f + 1)) (ff f) 30) ⟨b2, by rw [pk_us]; exact an_01 _ _, ?_, ?_⟩
    · rw [show P + w2 + w1 = P + (w1 + w2) by omega]; exact hq
    · rw [pk_us, pk_us, pk_us, show P + (w1 + w2) = P + w2 + w1 by omega]
      refine xb_L gs (fun u => ?_)
      constructor
      · rintro (q | q | q)
        · exact q.2
        · first | omega | exact q.1.elim | exact absurd q.1 (by decide)
        · first | omega | exact q.1.elim | exact absurd q.1 (by decide)
      · intro q; exact Or.inl ⟨by trivial, q⟩
    · rw [show P + (w1 + w2) = P + w2 + w1 by omega]
      refine ⟨fun j hj => ?_, fun p hp => ?_, fun j hj => ?_, fun p p1 p2 => ?_, r5⟩
      · rw [pk_un (by omega), pk_un (by omega), pk_un (by omega)]; exact r1 j hj
      · rw [hout p (Or.inl hp)]; exact r2 p hp
      · rw [lk_out (Or.inl hj)]; exact r3 j hj
      · rw [hout p (Or.inr p1)]; exact r4 p p1 p2
  · simp only [show ¬ (2 : Nat) = 7 by omega, if_false] at h h30
    refine br_f (by decide) (br_t rfl (sx_unite (into := f) (oth := f + 1) (fragmentFirst := ff) (fragmentLast := fl) (fragmentEmpty := fe) (by omega) (by omega) (nm_r (nI_1 f) ?_)))
    have ga := xb_alt (lo := P) (hi := P + w2 + w1) g2 g1 (Or.inl ⟨rfl, rfl, rfl⟩) (by omega) (by omega)
    have hq := h ta fb (upd ff f (ff f ||| ff (f + 1))) (upd fl f (fl f ||| fl (f + 1))) (upd fe f (ow_e (fe f) (fe (f + 1)))) fo ⟨b2, by rw [pk_us]; exact ow_01 _ _, ?_, ?_⟩
    · rw [show P + w2 + w1 = P + (w1 + w2) by omega]; exact hq
    · rw [pk_us, pk_us, pk_us, show P + (w1 + w2) = P + w2 + w1 by omega]
      refine xb_L ga (fun u => ?_)
      constructor
      · rintro (q | q | q)
        · first | omega | exact q.1.elim | exact absurd q.1 (by decide)
        · exact q.2.elim Or.inr Or.inl
        · first | omega | exact q.1.elim | exact absurd q.1 (by decide)
      · intro q; exact Or.inr (Or.inl ⟨by trivial, q.elim Or.inr Or.inl⟩)
    · rw [show P + (w1 + w2) = P + w2 + w1 by omega]
      refine ⟨fun j hj => ?_, r2, r3, r4, r5⟩
      rw [pk_un (by omega), pk_un (by omega), pk_un (by omega)]; exact r1 j hj
  · simp only [if_true] at h h30
    refine br_f (by decide) (br_f (by decide) ?_)
    -- a copy of the second part
    refine sx_pushCopy (j := f) (F := f + 2) (lo := P) (hi := P + w2) (P := P + w2 + w1) (tokenAt := ta) (fragmentBegin := fb) (fragmentFirst := ff) (fragmentLast := fl) (fragmentEmpty := fe) (follow := fo) (by omega) (by omega) (by omega) (by omega) (by omega) b2 (Or.inr ⟨by omega, b1⟩) e2 ?_
    have s1 : P + w2 - P = w2 := by omega
    have s2 : P + w2 + w1 - P = w2 + w1 := by omega
    rw [s1, s2]
    have c2 := xb_copy (s := w2 + w1) g2 (by omega) (by omega) (by omega)
    rw [s1] at c2
    have g2a : xb_g (cp_a ta 0 P w2 (w2 + w1) (fun z => z)) (cp_a fo 186 P w2 (w2 + w1) (fun z => z <<< (nI (w2 + w1) &&& 31))) P (P + w2) (ff f) (fl f) (fe f) L2 := xb_cg g2 (fun p p1 p2 => ⟨cp_out (by omega), cp_out (by omega)⟩)
    have g1a : xb_g (cp_a ta 0 P w2 (w2 + w1) (fun z => z)) (cp_a fo 186 P w2 (w2 + w1) (fun z => z <<< (nI (w2 + w1) &&& 31))) (P + w2) (P + w2 + w1) (ff (f + 1)) (fl (f + 1)) (fe (f + 1)) L1 := xb_cg g1 (fun p p1 p2 => ⟨cp_out (by omega), cp_out (by omega)⟩)
    have tA : ∀ p, P ≤ p → p < P + w2 + w1 + w2 → ∃ i, cp_a ta 0 P w2 (w2 + w1) (fun z => z) p = nI i ∧ i < d ∧ kd i = 0 := by
      intro p p1 p2
      by_cases q : p < P + w2 + w1
      · rw [cp_out (by omega)]; exact r5 p p1 q
      · have := cp_in (g := ta) (o := 0) (b := P) (m := w2) (s := w2 + w1) (h := fun z => z) (j := p - (w2 + w1)) (by omega) (by omega)
        rw [Nat.sub_add_cancel (by omega)] at this
        rw [this]
        exact r5 _ (by omega) (by omega)
    have tF : ∀ j, j < 186 + P → cp_a fo 186 P w2 (w2 + w1) (fun z => z <<< (nI (w2 + w1) &&& 31)) j = fo j := fun j hj => cp_out (by omega)
    have tZ : ∀ p, P + w2 + w1 + w2 ≤ p → p < 30 → cp_a fo 186 P w2 (w2 + w1) (fun z => z <<< (nI (w2 + w1) &&& 31)) (186 + p) = 0 := fun p p1 p2 => by rw [cp_out (by omega)]; exact r4 p (by omega) p2
    have tT : ∀ p, p < P → cp_a ta 0 P w2 (w2 + w1) (fun z => z) p = ta p := fun p hp => cp_out (by omega)
    revert c2 g2a g1a tA tF tZ tT
    generalize cp_a ta 0 P w2 (w2 + w1) (fun z => z) = tb
    generalize cp_a fo 186 P w2 (w2 + w1) (fun z => z <<< (nI (w2 + w1) &&& 31)) = fob
    generalize ff f <<< (nI (w2 + w1) &&& 31) = F3
    generalize fl f <<< (nI (w2 + w1) &&& 31) = A3
    intro c2 g2a g1a tA tF tZ tT
    -- a copy of the first part
    refine sx_pushCopy (j := f + 1) (F := f + 2 + 1) (lo := P + w2) (hi := P + w2 + w1) (P := P + w2 + w1 + w2) (by omega) (by omega) (by omega) (by omega) (by omega) (by rw [pk_un (by omega)]; exact b1) (Or.inr ⟨by omega, by rw [pk_us]⟩) (by rw [pk_un (by omega)]; exact e1) ?_
    have s3 : P + w2 + w1 - (P + w2) = w1 := by omega
    have s4 : P + w2 + w1 + w2 - (P + w2) = w1 + w2 := by omega
    have u1 : upd ff (f + 2) F3 (f + 1) = ff (f + 1) := pk_un (by omega)
    have u2 : upd fl (f + 2) A3 (f + 1) = fl (f + 1) := pk_un (by omega)
    have u3 : upd fe (f + 2) (fe f) (f + 1) = fe (f + 1) := pk_un (by omega)
    rw [s3, s4, u1, u2, u3]
    have c1 := xb_copy (s := w1 + w2) g1a (by omega) (by omega) (by omega)
    rw [s3] at c1
    have g2b : xb_g (cp_a tb 0 (P + w2) w1 (w1 + w2) (fun z => z)) (cp_a fob 186 (P + w2) w1 (w1 + w2) (fun z => z <<< (nI (w1 + w2) &&& 31))) P (P + w2) (ff f) (fl f) (fe f) L2 := xb_cg g2a (fun p p1 p2 => ⟨cp_out (by omega), cp_out (by omega)⟩)
    have g1b : xb_g (cp_a tb 0 (P + w2) w1 (w1 + w2) (fun z => z)) (cp_a fob 186 (P + w2) w1 (w1 + w2) (fun z => z <<< (nI (w1 + w2) &&& 31))) (P + w2) (P + w2 + w1) (ff (f + 1)) (fl (f + 1)) (fe (f + 1)) L1 := xb_cg g1a (fun p p1 p2 => ⟨cp_out (by omega), cp_out (by omega)⟩)
    have g3b : xb_g (cp_a tb 0 (P + w2) w1 (w1 + w2) (fun z => z)) (cp_a fob 186 (P + w2) w1 (w1 + w2) (fun z => z <<< (nI (w1 + w2) &&& 31))) (P + (w2 + w1)) (P + w2 + (w2 + w1)) F3 A3 (fe f) L2 := xb_cg c2 (fun p p1 p2 => ⟨cp_out (by omega), cp_out (by omega)⟩)
    have vA : ∀ p, P ≤ p → p < P + 2 * (w1 + w2) → ∃ i, cp_a tb 0 (P + w2) w1 (w1 + w2) (fun z => z) p = nI i ∧ i < d ∧ kd i = 0 := by
      intro p p1 p2
      by_cases q : p < P + w2 + w1 + w2
      · rw [cp_out (by omega)]; exact tA p p1 q
      · have := cp_in (g := tb) (o := 0) (b := P + w2) (m := w1) (s := w1 + w2) (h := fun z => z) (j := p - (w1 + w2)) (by omega) (by omega)
        rw [Nat.sub_add_cancel (by omega)] at this
        rw [this]
        exact tA _ (by omega) (by omega)
    have vF : ∀ j, j < 186 + P → cp_a fob 186 (P + w2) w1 (w1 + w2) (fun z => z <<< (nI (w1 + w2) &&& 31)) j = fo j := fun j hj => by rw [cp_out (by omega)]; exact tF j hj
    have vZ : ∀ p, P + 2 * (w1 + w2) ≤ p → p < 30 → cp_a fob 186 (P + w2) w1 (w1 + w2) (fun z => z <<< (nI (w1 + w2) &&& 31)) (186 + p) = 0 := fun p p1 p2 => by rw [cp_out (by omega)]; exact tZ p (by omega) p2
    have vT : ∀ p, p < P → cp_a tb 0 (P + w2) w1 (w1 + w2) (fun z => z) p = ta p := fun p hp => by rw [cp_out (by omega)]; exact tT p hp
    revert c1 g2b g1b g3b vA vF vZ vT
    generalize cp_a tb 0 (P + w2) w1 (w1 + w2) (fun z => z) = tc
    generalize cp_a fob 186 (P + w2) w1 (w1 + w2) (fun z => z <<< (nI (w1 + w2) &&& 31)) = foc
    generalize ff (f + 1) <<< (nI (w1 + w2) &&& 31) = F4
    generalize fl (f + 1) <<< (nI (w1 + w2) &&& 31) = A4
    intro c1 g2b g1b g3b vA vF vZ vT
    -- first, second
    have w1' : upd (upd ff (f + 2) F3) (f + 2 + 1) F4 (f + 1) = ff (f + 1) := by rw [pk_un (by omega), pk_un (by omega)]
    have w2' : upd (upd ff (f + 2) F3) (f + 2 + 1) F4 f = ff f := by rw [pk_un (by omega), pk_un (by omega)]
    have w3' : upd (upd fl (f + 2) A3) (f + 2 + 1) A4 (f + 1) = fl (f + 1) := by rw [pk_un (by omega), pk_un (by omega)]
    have w4' : upd (upd fl (f + 2) A3) (f + 2 + 1) A4 f = fl f := by rw [pk_un (by omega), pk_un (by omega)]
    have w5' : upd (upd fe (f + 2) (fe f)) (f + 2 + 1) (fe (f + 1)) (f + 1) = fe (f + 1) := by rw [pk_un (by omega), pk_un (by omega)]
    have w6' : upd (upd fe (f + 2) (fe f)) (f + 2 + 1) (fe (f + 1)) f = fe f := by rw [pk_un (by omega), pk_un (by omega)]
    refine sx_chain (hd := f + 1) (tl := f) (into := f) (by omega) (by omega) (by omega) ?_
    rw [w1', w2', w3', w4', w5', w6']
    have gs := xb_seq (lo := P) (hi := P + w2 + w1) g1b g2b (Or.inr ⟨by omega, rfl, rfl, rfl⟩) (by omega) (by omega) (by omega) hL2
    have o1 : ∀ p, (p < P + w2 ∨ P + w2 + w1 ≤ p) → lk_f foc (fl (f + 1)) (ff f) 30 (186 + p) = foc (186 + p) := by
      intro p hp
      refine lk_out (Or.inr ?_)
      rw [show 186 + p - 186 = p by omega]
      cases hv : bt (fl (f + 1)) p with
      | false => rfl
      | true => have := g1b.2.1 p hv; omega
    have g3c := xb_cg (ta' := tc) (fo' := lk_f foc (fl (f + 1)) (ff f) 30) g3b (fun p p1 p2 => ⟨rfl, o1 p (by omega)⟩)
    have g4c := xb_cg (ta' := tc) (fo' := lk_f foc (fl (f + 1)) (ff f) 30) c1 (fun p p1 p2 => ⟨rfl, o1 p (by omega)⟩)
    -- second, first
    rw [nI_1 (f + 1), show nI (f + 1) + 2 = nI (f + 1 + 2) from nI_add (f + 1) 2, show f + 1 + 1 = f + 2 by omega, show f + 1 + 2 = f + 3 by omega]
    refine sx_chain (hd := f + 2) (tl := f + 3) (into := f + 2) (by omega) (by omega) (by omega) ?_
    have y1 : ∀ (z a b c : Nat → Int32) (v1 v2 v3 : Int32), upd (upd (upd z (f + 2) v1) (f + 2 + 1) v2) f v3 (f + 2) = v1 := fun z a b c v1 v2 v3 => by rw [pk_un (by omega), pk_un (by omega), pk_us]
    have y2 : ∀ (z : Nat → Int32) (v1 v2 v3 : Int32), upd (upd (upd z (f + 2) v1) (f + 2 + 1) v2) f v3 (f + 3) = v2 := fun z v1 v2 v3 => by rw [pk_un (by omega), show f + 3 = f + 2 + 1 by omega, pk_us]
    rw [y1 _ ff ff ff, y1 _ ff ff ff, y1 _ ff ff ff, y2, y2, y2]
    have gt := xb_seq (lo := P + w2 + w1) (hi := P + 2 * (w1 + w2)) g3c g4c (Or.inl ⟨by omega, by omega, by omega, by omega⟩) (by omega) (by omega) (by omega) hL1
    have o2 : ∀ p, (p < P + w2 + w1 ∨ P + 2 * (w1 + w2) ≤ p) → lk_f (lk_f foc (fl (f + 1)) (ff f) 30) A3 F4 30 (186 + p) = lk_f foc (fl (f + 1)) (ff f) 30 (186 + p) := by
      intro p hp
      refine lk_out (Or.inr ?_)
      rw [show 186 + p - 186 = p by omega]
      cases hv : bt A3 p with
      | false => rfl
      | true => have := g3c.2.1 p hv; omega
    have gu := xb_cg (ta' := tc) (fo' := lk_f (lk_f foc (fl (f + 1)) (ff f) 30) A3 F4 30) gs (fun p p1 p2 => ⟨rfl, o2 p (by omega)⟩)
    -- either
    refine sx_unite (into := f) (oth := f + 2) (by omega) (by omega) (nm_r (nI_1 f) ?_)
    have ga := xb_alt (lo := P) (hi := P + 2 * (w1 + w2)) gu gt (Or.inl ⟨rfl, rfl, rfl⟩) (by omega) (by omega)
    have z1 : ∀ (z : Nat → Int32) (v1 v2 : Int32), upd (upd z f v1) (f + 2) v2 f = v1 := fun z v1 v2 => by rw [pk_un (by omega), pk_us]
    have z2 : ∀ (z : Nat → Int32) (v1 v2 : Int32), upd (upd z f v1) (f + 2) v2 (f + 2) = v2 := fun z v1 v2 => by rw [pk_us]
    rw [z1, z1, z1, z2, z2, z2, show P + w2 + w1 + w2 + w1 = P + 2 * (w1 + w2) by omega]
    refine h _ _ _ _ _ _ ⟨?_, by rw [pk_us]; exact ow_01 _ _, ?_, ?_⟩
    · rw [pk_un (by omega), pk_un (by omega)]; exact b2
    · rw [pk_us, pk_us, pk_us]
      refine xb_L ga (fun u => ?_)
      constructor
      · rintro (q | q | q)
        · first | omega | exact q.1.elim | exact absurd q.1 (by decide)
        · first | omega | exact q.1.elim | exact absurd q.1 (by decide)
        · exact q.2
      · intro q; exact Or.inr (Or.inr ⟨by trivial, q⟩)
    · refine ⟨fun j hj => ?_, fun p hp => ?_, fun j hj => ?_, fun p p1 p2 => ?_, vA⟩
      · have k0 : ∀ (z : Nat → Int32) (v1 v2 v3 v4 v5 : Int32), upd (upd (upd (upd (upd z (f + 2) v1) (f + 2 + 1) v2) f v3) (f + 2) v4) f v5 j = z j := fun z v1 v2 v3 v4 v5 => by rw [pk_un (by omega), pk_un (by omega), pk_un (by omega), pk_un (by omega), pk_un (by omega)]
        rw [k0, k0, k0, pk_un (by omega), pk_un (by omega)]
        exact r1 j hj
      · rw [vT p hp, o2 p (by omega), o1 p (by omega), vF _ (by omega)]
        exact r2 p hp
      · rw [lk_out (Or.inl hj), lk_out (Or.inl hj), vF _ (by omega)]
        exact r3 j hj
      · rw [o2 p (by omega), o1 p (by omega)]
        exact vZ p p1 p2
end
