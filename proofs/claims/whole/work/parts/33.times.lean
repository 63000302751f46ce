/-! ===== TIMES in the component ===== -/
theorem ex_tm_ne {L : List Nat → Prop} (hL : ∃ u, L u) : ∀ h lo, ∃ u, ex_tm L h lo u := by
  intro h
  induction h with
  | zero => intro lo; exact ⟨[], rfl⟩
  | succ h ih =>
    intro lo
    obtain ⟨a, ha⟩ := hL
    obtain ⟨b, hb⟩ := ih (lo - 1)
    exact ⟨a ++ b, a, b, rfl, Or.inr ha, hb⟩
/-- what is not touched: below f, below P, below 186; zeros from T on; NAME tokens from P to T -/
def xf_R (d : Nat) (kd : Nat → Nat) (f P T : Nat) (ta fb ff fl fe fo ta' fb' ff' fl' fe' fo' : Nat → Int32) : Prop :=
  (∀ j, j < f → fb' j = fb j ∧ ff' j = ff j ∧ fl' j = fl j ∧ fe' j = fe j) ∧ (∀ p, p < P → ta' p = ta p ∧ fo' (186 + p) = fo (186 + p)) ∧ (∀ j, j < 186 → fo' j = fo j) ∧ (∀ p, T ≤ p → p < 30 → fo' (186 + p) = 0) ∧ (∀ p, P ≤ p → p < T → ∃ i, ta' p = nI i ∧ i < d ∧ kd i = 0)
section
variable {drafted latestPlace positions fragments elementCount : Int32} {draftKind draftValue weights tokenAt fragmentBegin fragmentFirst fragmentLast fragmentEmpty reachedWith follow bearing accepting kindOfType leastOf greatestOf listedCount listedValue attributeUse attributeType typeOfName inUse nameOf parentOf kidCount kids hasValue valueOf hasAttribute attributeValue walked waiting : Nat → Int32}
/-- the chaining, from the right -/
theorem sx_row71 {post : SX → Prop} {d f P W m l : Nat} {kd : Nat → Nat} {L : List Nat → Prop} {ta0 fb0 ff0 fl0 fe0 fo0 : Nat → Int32} (hm : m ≤ 3) (hm1 : 1 ≤ m) (hf : f + m ≤ 18) (h30 : P + m * W ≤ 30) (hL : ∃ u, L u)
    (h : ∀ ta fb ff fl fe fo : Nat → Int32, fb f = nI P → (fe f = 0 ∨ fe f = 1) → xb_g ta fo P (P + m * W) (ff f) (fl f) (fe f) (ex_tm L m l) → xf_R d kd f P (P + m * W) ta0 fb0 ff0 fl0 fe0 fo0 ta fb ff fl fe fo → post (drafted, latestPlace, positions, nI (f + 1), elementCount, draftKind, draftValue, weights, ta, fb, ff, fl, fe, reachedWith, fo, bearing, accepting, kindOfType, leastOf, greatestOf, listedCount, listedValue, attributeUse, attributeType, typeOfName, inUse, nameOf, parentOf, kidCount, kids, hasValue, valueOf, hasAttribute, attributeValue, walked, waiting)) :
    ∀ (c : Nat) (ta fb ff fl fe fo : Nat → Int32), c < m → fb f = nI P → (∀ j, j ≤ c → fe (f + j) = 0 ∨ fe (f + j) = 1) → (∀ j, j < c → xb_g ta fo (P + j * W) (P + j * W + W) (ff (f + j)) (fl (f + j)) (fe (f + j)) (fun u => (l ≤ j ∧ u = []) ∨ L u)) → xb_g ta fo (P + c * W) (P + m * W) (ff (f + c)) (fl (f + c)) (fe (f + c)) (ex_tm L (m - c) (l - c)) → xf_R d kd f P (P + m * W) ta0 fb0 ff0 fl0 fe0 fo0 ta fb ff fl fe fo → wX_copyInARow_71 post (nI f) (c + 1) (nI c) drafted latestPlace positions fragments elementCount draftKind draftValue weights ta fb ff fl fe reachedWith fo bearing accepting kindOfType leastOf greatestOf listedCount listedValue attributeUse attributeType typeOfName inUse nameOf parentOf kidCount kids hasValue valueOf hasAttribute attributeValue walked waiting := by
  intro c
  induction c with
  | zero =>
    intro ta fb ff fl fe fo hc hfb hfe hj hT hR
    refine br_t (by decide) (nm_r (nI_1 f) (h ta fb ff fl fe fo hfb (hfe 0 (by omega)) ?_ hR))
    rw [Nat.zero_mul, Nat.add_zero, Nat.add_zero, Nat.sub_zero, Nat.sub_zero] at hT
    exact hT
  | succ c ih =>
    intro ta fb ff fl fe fo hc hfb hfe hj hT hR
    have g1 := hj c (by omega)
    have e1 : (c + 1) * W = c * W + W := Nat.succ_mul c W
    have le : ∀ j, j + 1 ≤ m → j * W + W ≤ m * W := fun j hjm => by rw [← Nat.succ_mul]; exact Nat.mul_le_mul_right _ hjm
    have l1 := le c (by omega)
    have lm := le (c + 1) (by omega)
    refine br_f (nI_nlt (b := 1) (by omega) (by omega)) ?_
    rw [nI_add, nb_s1 (by omega), show f + (c + 1) - 1 = f + c by omega]
    refine sx_chain (hd := f + c) (tl := f + (c + 1)) (into := f + c) (fragmentFirst := ff) (fragmentLast := fl) (fragmentEmpty := fe) (follow := fo) (by omega) (by omega) (by omega) (nm_r (nb_a1 c) (ih ta fb _ _ _ _ (by omega) hfb (fun j hj' => ?_) (fun j hj' => ?_) ?_ ?_))
    · by_cases q : j = c
      · rw [q, pk_us]; exact an_01 _ _
      · rw [pk_un (by omega)]; exact hfe j (by omega)
    · rw [pk_un (by omega), pk_un (by omega), pk_un (by omega)]
      have le2 : j * W + W ≤ c * W := by rw [← Nat.succ_mul]; exact Nat.mul_le_mul_right _ hj'
      refine xb_cg (hj j (by omega)) (fun p p1 p2 => ⟨rfl, lk_out (Or.inr ?_)⟩)
      rw [show 186 + p - 186 = p by omega]
      cases hv : bt (fl (f + c)) p with
      | false => rfl
      | true => have := (g1.2.1 p hv).1; omega
    · rw [pk_us, pk_us, pk_us]
      have g2 := hT
      rw [e1] at g2
      have gs := xb_seq (lo := P + c * W) (hi := P + m * W) g1 g2 (Or.inl ⟨by omega, rfl, rfl, by omega⟩) (by omega) (by omega) (by omega) (ex_tm_ne hL _ _)
      refine xb_L gs (fun u => ?_)
      rw [show m - c = (m - (c + 1)) + 1 by omega]
      refine ex_cat_congr (fun v => ?_) (fun v => ?_) u
      · constructor
        · rintro (⟨q1, q2⟩ | q)
          · exact Or.inl ⟨by omega, q2⟩
          · exact Or.inr q
        · rintro (⟨q1, q2⟩ | q)
          · exact Or.inl ⟨by omega, q2⟩
          · exact Or.inr q
      · rw [show l - c - 1 = l - (c + 1) by omega]
    · obtain ⟨r1, r2, r3, r4, r5⟩ := hR
      have hout : ∀ p, (p < P ∨ P + m * W ≤ p) → lk_f fo (fl (f + c)) (ff (f + (c + 1))) 30 (186 + p) = fo (186 + p) := by
        intro p hp
        refine lk_out (Or.inr ?_)
        rw [show 186 + p - 186 = p by omega]
        cases hv : bt (fl (f + c)) p with
        | false => rfl
        | true => have := g1.2.1 p hv; omega
      refine ⟨fun j hj' => ?_, fun p hp => ?_, fun j hj' => ?_, fun p p1 p2 => ?_, r5⟩
      · rw [pk_un (by omega), pk_un (by omega), pk_un (by omega)]; exact r1 j hj'
      · rw [hout p (Or.inl hp)]; exact r2 p hp
      · rw [lk_out (Or.inl hj')]; exact r3 j hj'
      · rw [hout p (Or.inr p1)]; exact r4 p p1 p2
/-- those beyond the least number may be empty -/
theorem sx_row42 {post : SX → Prop} {d f P W m l : Nat} {kd : Nat → Nat} {L : List Nat → Prop} {ta0 fb0 ff0 fl0 fe0 fo0 : Nat → Int32} (hm : m ≤ 3) (hm1 : 1 ≤ m) (hlm : l ≤ m) (hf : f + m ≤ 18) (h30 : P + m * W ≤ 30) (hL : ∃ u, L u)
    (h : ∀ ta fb ff fl fe fo : Nat → Int32, fb f = nI P → (fe f = 0 ∨ fe f = 1) → xb_g ta fo P (P + m * W) (ff f) (fl f) (fe f) (ex_tm L m l) → xf_R d kd f P (P + m * W) ta0 fb0 ff0 fl0 fe0 fo0 ta fb ff fl fe fo → post (drafted, latestPlace, positions, nI (f + 1), elementCount, draftKind, draftValue, weights, ta, fb, ff, fl, fe, reachedWith, fo, bearing, accepting, kindOfType, leastOf, greatestOf, listedCount, listedValue, attributeUse, attributeType, typeOfName, inUse, nameOf, parentOf, kidCount, kids, hasValue, valueOf, hasAttribute, attributeValue, walked, waiting)) (ta fb ff fl fo : Nat → Int32) (hfb : fb f = nI P) :
    ∀ (n c : Nat) (fe : Nat → Int32), c + n = m → l ≤ c → (∀ j, j < m → fe (f + j) = 0 ∨ fe (f + j) = 1) → (∀ j, j < m → xb_g ta fo (P + j * W) (P + j * W + W) (ff (f + j)) (fl (f + j)) (fe (f + j)) (fun u => ((l ≤ j ∧ j < c) ∧ u = []) ∨ L u)) → xf_R d kd f P (P + m * W) ta0 fb0 ff0 fl0 fe0 fo0 ta fb ff fl fe fo → wX_copyInARow_42 post (nI f) (nI m) drafted latestPlace positions fragments elementCount (n + 1) (nI c) draftKind draftValue weights ta fb ff fl fe reachedWith fo bearing accepting kindOfType leastOf greatestOf listedCount listedValue attributeUse attributeType typeOfName inUse nameOf parentOf kidCount kids hasValue valueOf hasAttribute attributeValue walked waiting := by
  intro n
  induction n with
  | zero =>
    intro c fe hc hl hfe hg hR
    obtain rfl : c = m := by omega
    refine br_t (nI_le (Nat.le_refl _) (by omega)) (nm_r (nb_s1 hm1) ⟨c - 1 + 1, ?_⟩)
    refine sx_row71 (d := d) (kd := kd) (m := c) (l := l) (W := W) (L := L) hm hm1 hf h30 hL h (c - 1) ta fb ff fl fe fo (by omega) hfb (fun j hj => hfe j (by omega)) (fun j hj => ?_) ?_ hR
    · refine xb_L (hg j (by omega)) (fun u => ?_)
      constructor
      · rintro (⟨q1, q2⟩ | q)
        · exact Or.inl ⟨⟨q1, by omega⟩, q2⟩
        · exact Or.inr q
      · rintro (⟨q1, q2⟩ | q)
        · exact Or.inl ⟨q1.1, q2⟩
        · exact Or.inr q
    · have e1 : c * W = (c - 1) * W + W := by
        rw [← Nat.succ_mul]
        congr 1
        omega
      rw [show P + c * W = P + (c - 1) * W + W by omega]
      refine xb_L (hg (c - 1) (by omega)) (fun u => ?_)
      rw [show c - (c - 1) = 0 + 1 by omega]
      constructor
      · rintro ⟨a, b, e, ha, hb⟩
        rw [show b = [] from hb, List.append_nil] at e
        rw [e]
        rcases ha with ⟨q1, q2⟩ | q
        · exact Or.inl ⟨⟨by omega, by omega⟩, q2⟩
        · exact Or.inr q
      · rintro (⟨q1, q2⟩ | q)
        · exact ⟨u, [], (List.append_nil u).symm, Or.inl ⟨by omega, q2⟩, rfl⟩
        · exact ⟨u, [], (List.append_nil u).symm, Or.inr q, rfl⟩
  | succ n ih =>
    intro c fe hc hl hfe hg hR
    refine br_f (nI_ge (by omega) (by omega)) ?_
    rw [nI_add]
    refine ⟨vp_in_nI (by omega) (by omega), nm_r (e' := upd fe (f + c) 1) (by rw [nb_cl (by omega), nb_b1]) (nm_r (nI_1 c) (ih (c + 1) _ (by omega) (by omega) (fun j hj => ?_) (fun j hj => ?_) ?_))⟩
    · by_cases q : j = c
      · rw [q, pk_us]; exact Or.inr rfl
      · rw [pk_un (by omega)]; exact hfe j hj
    · by_cases q : j = c
      · rw [q, pk_us]
        refine gl_F_eq (gl_opt (hg c (by omega))) (fun _ => Iff.rfl) (fun _ => Iff.rfl) (fun _ => Iff.rfl) ⟨fun _ => trivial, fun _ => nb_10⟩ (fun u => ?_)
        constructor
        · rintro (⟨_, q2⟩ | q)
          · exact Or.inl q2
          · exact Or.inr (Or.inr q)
        · rintro (q2 | ⟨q1, q2⟩ | q)
          · exact Or.inl ⟨⟨hl, by omega⟩, q2⟩
          · exact Or.inl ⟨⟨hl, by omega⟩, q2⟩
          · exact Or.inr q
      · rw [pk_un (by omega)]
        refine xb_L (hg j hj) (fun u => ?_)
        constructor
        · rintro (⟨q1, q2⟩ | q3)
          · exact Or.inl ⟨⟨q1.1, by omega⟩, q2⟩
          · exact Or.inr q3
        · rintro (⟨q1, q2⟩ | q3)
          · exact Or.inl ⟨⟨q1.1, by omega⟩, q2⟩
          · exact Or.inr q3
    · obtain ⟨r1, r2, r3, r4, r5⟩ := hR
      refine ⟨fun j hj => ?_, r2, r3, r4, r5⟩
      rw [pk_un (by omega)]
      exact r1 j hj
/-- the copies -/
theorem sx_row21 {post : SX → Prop} {d f P W m l : Nat} {kd : Nat → Nat} {L : List Nat → Prop} {ta0 fb0 ff0 fl0 fe0 fo0 : Nat → Int32} (hm : m ≤ 3) (hm1 : 1 ≤ m) (hlm : l ≤ m) (hf : f + m ≤ 18) (h30 : P + m * W ≤ 30) (hL : ∃ u, L u)
    (h : ∀ ta fb ff fl fe fo : Nat → Int32, fb f = nI P → (fe f = 0 ∨ fe f = 1) → xb_g ta fo P (P + m * W) (ff f) (fl f) (fe f) (ex_tm L m l) → xf_R d kd f P (P + m * W) ta0 fb0 ff0 fl0 fe0 fo0 ta fb ff fl fe fo → post (drafted, latestPlace, nI (P + m * W), nI (f + 1), elementCount, draftKind, draftValue, weights, ta, fb, ff, fl, fe, reachedWith, fo, bearing, accepting, kindOfType, leastOf, greatestOf, listedCount, listedValue, attributeUse, attributeType, typeOfName, inUse, nameOf, parentOf, kidCount, kids, hasValue, valueOf, hasAttribute, attributeValue, walked, waiting)) :
    ∀ (n i : Nat) (ta fb ff fl fe fo : Nat → Int32), i + n = m → 1 ≤ i → (∀ j, j < i → fb (f + j) = nI (P + j * W)) → (∀ j, j < i → fe (f + j) = 0 ∨ fe (f + j) = 1) → (∀ j, j < i → xb_g ta fo (P + j * W) (P + j * W + W) (ff (f + j)) (fl (f + j)) (fe (f + j)) L) → xf_R d kd f P (P + i * W) ta0 fb0 ff0 fl0 fe0 fo0 ta fb ff fl fe fo → wX_copyInARow_21 post (nI f) (nI l) (nI m) (n + 1) (nI i) drafted latestPlace (nI (P + i * W)) (nI (f + i)) elementCount draftKind draftValue weights ta fb ff fl fe reachedWith fo bearing accepting kindOfType leastOf greatestOf listedCount listedValue attributeUse attributeType typeOfName inUse nameOf parentOf kidCount kids hasValue valueOf hasAttribute attributeValue walked waiting := by
  intro n
  induction n with
  | zero =>
    intro i ta fb ff fl fe fo hi h1 hfb hfe hg hR
    obtain rfl : i = m := by omega
    have hb0 := hfb 0 (by omega)
    rw [Nat.zero_mul, Nat.add_zero, Nat.add_zero] at hb0
    refine br_t (nI_le (Nat.le_refl _) (by omega)) ⟨i - l + 1, ?_⟩
    refine sx_row42 (d := d) (kd := kd) (m := i) (l := l) (W := W) (L := L) (positions := nI (P + i * W)) hm hm1 hlm hf h30 hL h ta fb ff fl fo hb0 (i - l) l fe (by omega) (Nat.le_refl _) hfe (fun j hj => ?_) hR
    refine xb_L (hg j hj) (fun u => ?_)
    constructor
    · rintro (⟨q1, q2⟩ | q)
      · omega
      · exact q
    · intro q; exact Or.inr q
  | succ n ih =>
    intro i ta fb ff fl fe fo hi h1 hfb hfe hg hR
    have hb0 := hfb 0 (by omega)
    have hg0 := hg 0 (by omega)
    have hfe0 := hfe 0 (by omega)
    rw [Nat.zero_mul, Nat.add_zero, Nat.add_zero] at hb0
    rw [Nat.zero_mul, Nat.add_zero, Nat.add_zero] at hg0
    rw [Nat.add_zero] at hfe0
    have e1 : (i + 1) * W = i * W + W := Nat.succ_mul i W
    have le : i * W + W ≤ m * W := by rw [← Nat.succ_mul]; exact Nat.mul_le_mul_right _ (by omega)
    have le1 : W ≤ i * W := by
      have : 1 * W ≤ i * W := Nat.mul_le_mul_right _ h1
      omega
    have hend : (f + i ≤ f + 1 ∧ P + i * W = P + W) ∨ (f + 1 < f + i ∧ fb (f + 1) = nI (P + W)) := by
      by_cases q : i = 1
      · left; rw [q, Nat.one_mul]; exact ⟨by omega, rfl⟩
      · right
        have := hfb 1 (by omega)
        rw [Nat.one_mul] at this
        exact ⟨by omega, this⟩
    refine br_f (nI_ge (by omega) (by omega)) ?_
    have es : P + i * W - P = i * W := by omega
    have ew : P + W - P = W := by omega
    refine sx_pushCopy (j := f) (F := f + i) (lo := P) (hi := P + W) (P := P + i * W) (tokenAt := ta) (fragmentBegin := fb) (fragmentFirst := ff) (fragmentLast := fl) (fragmentEmpty := fe) (follow := fo) (by omega) (by omega) (by omega) (by omega) (by omega) hb0 hend hfe0 (nm_r (nI_1 i) ?_)
    rw [es, ew]
    have hcp := xb_copy (s := i * W) hg0 (by omega) (by omega) (by omega)
    rw [ew] at hcp
    have ih' := ih (i + 1) (cp_a ta 0 P W (i * W) (fun z => z)) (upd fb (f + i) (nI (P + i * W))) (upd ff (f + i) (ff f <<< (nI (i * W) &&& 31))) (upd fl (f + i) (fl f <<< (nI (i * W) &&& 31))) (upd fe (f + i) (fe f)) (cp_a fo 186 P W (i * W) (fun z => z <<< (nI (i * W) &&& 31))) (by omega) (by omega)
    rw [e1, show P + (i * W + W) = P + i * W + W by omega, show f + (i + 1) = f + i + 1 by omega] at ih'
    refine ih' (fun j hj => ?_) (fun j hj => ?_) (fun j hj => ?_) ?_
    · by_cases q : j = i
      · rw [q, pk_us]
      · rw [pk_un (by omega)]; exact hfb j (by omega)
    · by_cases q : j = i
      · rw [q, pk_us]; exact hfe0
      · rw [pk_un (by omega)]; exact hfe j (by omega)
    · by_cases q : j = i
      · rw [q, pk_us, pk_us, pk_us, show P + i * W + W = P + W + i * W by omega]
        exact hcp
      · rw [pk_un (by omega), pk_un (by omega), pk_un (by omega)]
        have le2 : j * W + W ≤ i * W := by rw [← Nat.succ_mul]; exact Nat.mul_le_mul_right _ (by omega)
        exact xb_cg (hg j (by omega)) (fun p p1 p2 => ⟨cp_out (by omega), cp_out (by omega)⟩)
    · obtain ⟨r1, r2, r3, r4, r5⟩ := hR
      refine ⟨fun j hj => ?_, fun p hp => ?_, fun j hj => ?_, fun p p1 p2 => ?_, fun p p1 p2 => ?_⟩
      · rw [pk_un (by omega), pk_un (by omega), pk_un (by omega), pk_un (by omega)]; exact r1 j hj
      · rw [cp_out (by omega), cp_out (by omega)]; exact r2 p hp
      · rw [cp_out (by omega)]; exact r3 j hj
      · rw [cp_out (by omega)]; exact r4 p (by omega) p2
      · by_cases q : p < P + i * W
        · rw [cp_out (by omega)]; exact r5 p p1 q
        · have := cp_in (g := ta) (o := 0) (b := P) (m := W) (s := i * W) (h := fun z => z) (j := p - i * W) (by omega) (by omega)
          rw [Nat.sub_add_cancel (by omega)] at this
          rw [this]
          exact r5 (p - i * W) (by omega) (by omega)
end
