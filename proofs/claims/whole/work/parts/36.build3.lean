/-! ===== the component's automaton: cleared, and done ===== -/
/-- the automaton of the draft spells L -/
def xb_D (d W : Nat) (L : List Nat → Prop) (kd vl : Nat → Nat) (ta fo be ac fo0 be0 ac0 : Nat → Int32) : Prop := ∃ (A : Int32) (em : Prop), gl_F (fun p q => bt (fo (186 + p)) q = true) (fun p => (ta p).toNatClampNeg) (fun p => p < W) (fun q => bt (fo 216) q = true) (fun q => bt A q = true) em L ∧ (∀ p, W ≤ p → p < 30 → fo (186 + p) = 0) ∧ (∀ s, s < 30 → (bt (ac 6) s = true ↔ bt A s = true)) ∧ (bt (ac 6) 30 = true ↔ em) ∧ (∀ n, n < 6 → ∀ q, bt (be (36 + n)) q = true ↔ q < W ∧ vl ((ta q).toNatClampNeg) = n) ∧ (∀ j, j < 186 → fo j = fo0 j) ∧ (∀ j, j < 36 → be j = be0 j) ∧ (∀ j, j < 6 → ac j = ac0 j) ∧ (∀ p, p < W → ∃ i, ta p = nI i ∧ i < d ∧ kd i = 0)
section
variable {drafted latestPlace positions fragments elementCount : Int32} {draftKind draftValue weights tokenAt fragmentBegin fragmentFirst fragmentLast fragmentEmpty reachedWith follow bearing accepting kindOfType leastOf greatestOf listedCount listedValue attributeUse attributeType typeOfName inUse nameOf parentOf kidCount kids hasValue valueOf hasAttribute attributeValue walked waiting : Nat → Int32}
theorem sx_clr36 {post : SX → Prop} (h : ∀ fo' : Nat → Int32, (∀ j, j < 186 → fo' j = follow j) → (∀ s, s < 31 → fo' (186 + s) = 0) → post (drafted, latestPlace, positions, fragments, elementCount, draftKind, draftValue, weights, tokenAt, fragmentBegin, fragmentFirst, fragmentLast, fragmentEmpty, reachedWith, fo', bearing, accepting, kindOfType, leastOf, greatestOf, listedCount, listedValue, attributeUse, attributeType, typeOfName, inUse, nameOf, parentOf, kidCount, kids, hasValue, valueOf, hasAttribute, attributeValue, walked, waiting)) : ∀ (m i : Nat) (fo' : Nat → Int32), i + m = 31 → (∀ j, j < 186 → fo' j = follow j) → (∀ s, s < i → fo' (186 + s) = 0) → wX_clearAutomaton_36 post drafted latestPlace positions fragments elementCount (m + 1) (nI i) draftKind draftValue weights tokenAt fragmentBegin fragmentFirst fragmentLast fragmentEmpty reachedWith fo' bearing accepting kindOfType leastOf greatestOf listedCount listedValue attributeUse attributeType typeOfName inUse nameOf parentOf kidCount kids hasValue valueOf hasAttribute attributeValue walked waiting := by
  intro m
  induction m with
  | zero =>
    intro i fo' hi h1 h2
    obtain rfl : i = 31 := by omega
    exact br_t (by decide) (h fo' h1 h2)
  | succ m ih =>
    intro i fo' hi h1 h2
    refine br_f (nI_ge (b := 31) (by omega) (by omega)) ?_
    rw [show (186 : Int32) + nI i = nI (186 + i) from nI_add 186 i]
    refine ⟨vp_in_nI (by omega) (by omega), nm_r (e' := upd fo' (186 + i) 0) (by rw [nb_cl (by omega)]) (nm_r (nI_1 i) (ih (i + 1) _ (by omega) (fun j hj => ?_) (fun s hs => ?_)))⟩
    · rw [pk_un (by omega)]; exact h1 j hj
    · by_cases q : s = i
      · rw [q, pk_us]
      · rw [pk_un (by omega)]; exact h2 s (by omega)
theorem sx_clr12 {post : SX → Prop} (h : ∀ be' fo' : Nat → Int32, (∀ j, j < 36 → be' j = bearing j) → (∀ n, n < 6 → be' (36 + n) = 0) → (∀ j, j < 186 → fo' j = follow j) → (∀ s, s < 31 → fo' (186 + s) = 0) → post (drafted, latestPlace, positions, fragments, elementCount, draftKind, draftValue, weights, tokenAt, fragmentBegin, fragmentFirst, fragmentLast, fragmentEmpty, reachedWith, fo', be', accepting, kindOfType, leastOf, greatestOf, listedCount, listedValue, attributeUse, attributeType, typeOfName, inUse, nameOf, parentOf, kidCount, kids, hasValue, valueOf, hasAttribute, attributeValue, walked, waiting)) : ∀ (m i : Nat) (be' : Nat → Int32), i + m = 6 → (∀ j, j < 36 → be' j = bearing j) → (∀ n, n < i → be' (36 + n) = 0) → wX_clearAutomaton_12 post drafted latestPlace positions fragments elementCount (m + 1) (nI i) draftKind draftValue weights tokenAt fragmentBegin fragmentFirst fragmentLast fragmentEmpty reachedWith follow be' accepting kindOfType leastOf greatestOf listedCount listedValue attributeUse attributeType typeOfName inUse nameOf parentOf kidCount kids hasValue valueOf hasAttribute attributeValue walked waiting := by
  intro m
  induction m with
  | zero =>
    intro i be' hi h1 h2
    obtain rfl : i = 6 := by omega
    exact br_t (by decide) ⟨32, sx_clr36 (bearing := be') (fun fo' f1 f2 => h be' fo' h1 h2 f1 f2) 31 0 follow (by omega) (fun _ _ => rfl) (fun s hs => by omega)⟩
  | succ m ih =>
    intro i be' hi h1 h2
    refine br_f (nI_ge (b := 6) (by omega) (by omega)) ?_
    rw [show (36 : Int32) + nI i = nI (36 + i) from nI_add 36 i]
    refine ⟨vp_in_nI (by omega) (by omega), nm_r (e' := upd be' (36 + i) 0) (by rw [nb_cl (by omega)]) (nm_r (nI_1 i) (ih (i + 1) _ (by omega) (fun j hj => ?_) (fun s hs => ?_)))⟩
    · rw [pk_un (by omega)]; exact h1 j hj
    · by_cases q : s = i
      · rw [q, pk_us]
      · rw [pk_un (by omega)]; exact h2 s (by omega)
theorem sx_clear {post : SX → Prop} (h : ∀ be' fo' : Nat → Int32, (∀ j, j < 36 → be' j = bearing j) → (∀ n, n < 6 → be' (36 + n) = 0) → (∀ j, j < 186 → fo' j = follow j) → (∀ s, s < 31 → fo' (186 + s) = 0) → post (drafted, latestPlace, nI 0, nI 0, elementCount, draftKind, draftValue, weights, tokenAt, fragmentBegin, fragmentFirst, fragmentLast, fragmentEmpty, reachedWith, fo', be', accepting, kindOfType, leastOf, greatestOf, listedCount, listedValue, attributeUse, attributeType, typeOfName, inUse, nameOf, parentOf, kidCount, kids, hasValue, valueOf, hasAttribute, attributeValue, walked, waiting)) : wpX_clearAutomaton post (drafted, latestPlace, positions, fragments, elementCount, draftKind, draftValue, weights, tokenAt, fragmentBegin, fragmentFirst, fragmentLast, fragmentEmpty, reachedWith, follow, bearing, accepting, kindOfType, leastOf, greatestOf, listedCount, listedValue, attributeUse, attributeType, typeOfName, inUse, nameOf, parentOf, kidCount, kids, hasValue, valueOf, hasAttribute, attributeValue, walked, waiting) :=
  ⟨7, sx_clr12 (positions := nI 0) (fragments := nI 0) h 6 0 bearing (by omega) (fun _ _ => rfl) (fun n hn => by omega)⟩
theorem sx_ba127 {post : SX → Prop} {d W : Nat} {kd vl : Nat → Nat} {be0 : Nat → Int32} (hd : d ≤ 16) (hW : W ≤ 30) (hk : dr_K d draftKind draftValue kd vl) (ht : ∀ p, p < W → ∃ i, tokenAt p = nI i ∧ i < d ∧ kd i = 0) (h : ∀ be : Nat → Int32, (∀ j, j < 36 → be j = be0 j) → (∀ n, n < 6 → ∀ q, bt (be (36 + n)) q = true ↔ q < W ∧ vl ((tokenAt q).toNatClampNeg) = n) → post (drafted, latestPlace, nI W, fragments, elementCount, draftKind, draftValue, weights, tokenAt, fragmentBegin, fragmentFirst, fragmentLast, fragmentEmpty, reachedWith, follow, be, accepting, kindOfType, leastOf, greatestOf, listedCount, listedValue, attributeUse, attributeType, typeOfName, inUse, nameOf, parentOf, kidCount, kids, hasValue, valueOf, hasAttribute, attributeValue, walked, waiting)) : ∀ (m p : Nat) (be : Nat → Int32), p + m = W → (∀ j, j < 36 → be j = be0 j) → (∀ n, n < 6 → ∀ q, bt (be (36 + n)) q = true ↔ q < p ∧ vl ((tokenAt q).toNatClampNeg) = n) → wX_buildAutomaton_127 post drafted latestPlace (nI W) fragments elementCount (m + 1) (nI p) draftKind draftValue weights tokenAt fragmentBegin fragmentFirst fragmentLast fragmentEmpty reachedWith follow be accepting kindOfType leastOf greatestOf listedCount listedValue attributeUse attributeType typeOfName inUse nameOf parentOf kidCount kids hasValue valueOf hasAttribute attributeValue walked waiting := by
  intro m
  induction m with
  | zero =>
    intro p be hp h1 h2
    obtain rfl : p = W := by omega
    exact br_t (nI_le (Nat.le_refl _) (by omega)) (h be h1 h2)
  | succ m ih =>
    intro p be hp h1 h2
    obtain ⟨i, ti, hi, ki⟩ := ht p (by omega)
    obtain ⟨_, _, v6, _, dv⟩ := hk i hi
    have v6' := v6 ki
    refine br_f (nI_ge (by omega) (by omega)) ?_
    rw [nb_cl (n := p) (by omega), ti, nb_cl (n := i) (by omega), dv (Or.inl ki), show (36 : Int32) + nI (vl i) = nI (36 + vl i) from nI_add 36 _]
    have vv : vp_in (nI (36 + vl i)) 42 := vp_in_nI (by omega) (by omega)
    refine ⟨vp_in_nI (by omega) (by omega), vp_in_nI (by omega) (by omega), vv, vv, nm_r (e' := upd be (36 + vl i) (be (36 + vl i) ||| ((1 : Int32) <<< (nI p &&& 31)))) (by rw [nb_cl (by omega)]) (nm_r (nI_1 p) (ih (p + 1) _ (by omega) (fun j hj => ?_) (fun n hn q => ?_)))⟩
    · rw [pk_un (by omega)]; exact h1 j hj
    · have tk : vl ((tokenAt p).toNatClampNeg) = vl i := by rw [ti, nb_cl (by omega)]
      by_cases e : n = vl i
      · rw [e, pk_us, bb_orI, bb_sI (by omega), h2 _ v6' q]
        constructor
        · rintro (⟨r1, r2⟩ | r)
          · exact ⟨by omega, r2⟩
          · rw [r]; exact ⟨by omega, tk⟩
        · rintro ⟨r1, r2⟩
          by_cases e2 : q = p
          · exact Or.inr e2
          · exact Or.inl ⟨by omega, r2⟩
      · rw [pk_un (by omega), h2 n hn q]
        constructor
        · rintro ⟨r1, r2⟩; exact ⟨by omega, r2⟩
        · rintro ⟨r1, r2⟩
          refine ⟨?_, r2⟩
          by_cases e2 : q = p
          · rw [e2, tk] at r2; exact absurd r2.symm e
          · omega
theorem sx_build {post : SX → Prop} {kd vl : Nat → Nat} {R : ex_T} (hd : ex_n R ≤ 16) (hk : dr_K (ex_n R) draftKind draftValue kd vl) (hS : ex_S kd vl R 0) (hW : ex_W R) (hw : ex_w R ≤ 30) (h : ∀ (fr : Int32) (ta fb ff fl fe fo be ac : Nat → Int32), xb_D (ex_n R) (ex_w R) (ex_L id R) kd vl ta fo be ac follow bearing accepting → post (nI (ex_n R), latestPlace, nI (ex_w R), fr, elementCount, draftKind, draftValue, weights, ta, fb, ff, fl, fe, reachedWith, fo, be, ac, kindOfType, leastOf, greatestOf, listedCount, listedValue, attributeUse, attributeType, typeOfName, inUse, nameOf, parentOf, kidCount, kids, hasValue, valueOf, hasAttribute, attributeValue, walked, waiting)) : wpX_buildAutomaton post (nI (ex_n R), latestPlace, positions, fragments, elementCount, draftKind, draftValue, weights, tokenAt, fragmentBegin, fragmentFirst, fragmentLast, fragmentEmpty, reachedWith, follow, bearing, accepting, kindOfType, leastOf, greatestOf, listedCount, listedValue, attributeUse, attributeType, typeOfName, inUse, nameOf, parentOf, kidCount, kids, hasValue, valueOf, hasAttribute, attributeValue, walked, waiting) := by
  unfold wpX_buildAutomaton
  refine sx_clear (fun be' fo' e1 e2 e3 e4 => nm_r (e' := nI (0 + ex_n R) + (-1)) (by rw [nb_dec, Nat.zero_add]) ⟨1 + ex_n R, ?_⟩)
  refine sx_baT (bearing := be') (d := ex_n R) (kd := kd) (vl := vl) hd hk R 0 0 0 1 tokenAt fragmentBegin fragmentFirst fragmentLast fragmentEmpty fo' hS hW (by omega) (by omega) (by omega) (fun p _ hp => e4 p (by omega)) (fun ta fb ff fl fe fo Q => br_t nb_d0 ?_)
  obtain ⟨_, q2, q3, r1, r2, r3, r4, r5⟩ := Q
  rw [Nat.zero_add] at q3 r4 r5
  have gF : gl_F (fun p q => bt (upd fo 216 (ff 0) (186 + p)) q = true) (fun p => (ta p).toNatClampNeg) (fun p => p < ex_w R) (fun q => bt (upd fo 216 (ff 0) 216) q = true) (fun q => bt (fl 0) q = true) (fe 0 ≠ 0) (ex_L id R) := by
    have g1 := gl_F_eq q3 (D' := fun p => p < ex_w R) (F' := fun q => bt (upd fo 216 (ff 0) 216) q = true) (Λ' := fun q => bt (fl 0) q = true) (em' := fe 0 ≠ 0) (L' := ex_L id R) (fun p => ⟨fun q => ⟨Nat.zero_le _, q⟩, fun q => q.2⟩) (fun p => by rw [pk_us]) (fun _ => Iff.rfl) Iff.rfl (fun _ => Iff.rfl)
    refine gl_F_cg g1 (fun p q hp => ?_) (fun p hp => rfl)
    show bt (upd fo 216 (ff 0) (186 + p)) q = true ↔ bt (fo (186 + p)) q = true
    rw [pk_un (by have : p < ex_w R := hp; omega)]
  have lt30 : ∀ q, bt (fl 0) q = true → q < 30 := fun q hq => by have : q < ex_w R := gF.2.1 q hq; omega
  have fin : ∀ acv : Int32, (∀ s, s < 30 → (bt acv s = true ↔ bt (fl 0) s = true)) → (bt acv 30 = true ↔ fe 0 ≠ 0) → ∃ n127, wX_buildAutomaton_127 post (nI (ex_n R)) latestPlace (nI (ex_w R)) (nI (0 + 1)) elementCount n127 0 draftKind draftValue weights ta fb ff fl fe reachedWith (upd fo 216 (ff 0)) be' (upd accepting 6 acv) kindOfType leastOf greatestOf listedCount listedValue attributeUse attributeType typeOfName inUse nameOf parentOf kidCount kids hasValue valueOf hasAttribute attributeValue walked waiting := by
    intro acv c1 c2
    refine ⟨ex_w R + 1, sx_ba127 (tokenAt := ta) (be0 := bearing) hd hw hk (fun p hp => r5 p (Nat.zero_le _) hp) (fun be b1 b2 => h _ ta fb ff fl fe _ be _ ⟨fl 0, fe 0 ≠ 0, gF, fun p p1 p2 => ?_, fun s hs => by rw [pk_us]; exact c1 s hs, by rw [pk_us]; exact c2, b2, fun j hj => ?_, b1, fun j hj => pk_un (by omega), fun p hp => r5 p (Nat.zero_le _) hp⟩) (ex_w R) 0 be' (by omega) e1 (fun n hn q => ?_)⟩
    · rw [pk_un (by omega)]; exact r4 p p1 p2
    · rw [pk_un (by omega), r3 j hj]; exact e3 j hj
    · rw [e2 n hn, b_0]
      exact ⟨fun q => absurd q Bool.false_ne_true, fun q => by omega⟩
  rw [Nat.zero_add]
  refine nm_e ?_
  by_cases z : fe 0 = 0
  · refine br_t z (nm_e (fin _ (fun s hs => ?_) ?_))
    · rw [bb_orI, b_0]; exact ⟨fun q => q.elim id (fun q => absurd q Bool.false_ne_true), Or.inl⟩
    · rw [bb_orI, b_0]
      exact ⟨fun q => q.elim (fun q => absurd (lt30 _ q) (by omega)) (fun q => absurd q Bool.false_ne_true), fun q => absurd z q⟩
  · refine br_f z (nm_e (fin _ (fun s hs => ?_) ?_))
    · rw [bb_orI, bb_30, decide_eq_true_iff]; exact ⟨fun q => q.elim id (fun q => by omega), Or.inl⟩
    · rw [bb_orI, bb_30, decide_eq_true_iff]; exact ⟨fun _ => z, fun _ => Or.inr rfl⟩
end
