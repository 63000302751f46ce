/-! ===== one expression or not; the weight, on both sides ===== -/
theorem ex_w4 : ∀ R : ex_T, ex_W R → 4 * ex_w R ≤ 4 ^ ex_n R := by
  have p1 : ∀ n, 1 ≤ 4 ^ n := fun n => Nat.pow_pos (by omega)
  have two : ∀ a b x y : Nat, 4 * x ≤ 4 ^ a → 4 * y ≤ 4 ^ b → 4 * (2 * (x + y)) ≤ 4 ^ (1 + a + b) := by
    intro a b x y h1 h2
    have e : 4 ^ (1 + a + b) = 4 * (4 ^ a * 4 ^ b) := by rw [Nat.pow_add, Nat.pow_add, Nat.pow_one, Nat.mul_assoc]
    have m1 : 4 ^ a * 1 ≤ 4 ^ a * 4 ^ b := Nat.mul_le_mul_left _ (p1 b)
    have m2 : 1 * 4 ^ b ≤ 4 ^ a * 4 ^ b := Nat.mul_le_mul_right _ (p1 a)
    omega
  intro R
  induction R with
  | num k => intro _; simp only [ex_w, ex_n]; omega
  | natCast k => intro _; simp only [ex_w, ex_n]; omega
  | intCast k => intro _; simp only [ex_w, ex_n]; omega
  | var i => intro _; simp only [ex_w, ex_n]; omega
  | neg a ih =>
    intro h
    have := ih h
    simp only [ex_w, ex_n]
    rw [Nat.pow_add, Nat.pow_one]
    omega
  | add a b iha ihb =>
    intro h
    have := two _ _ _ _ (iha h.1) (ihb h.2)
    simp only [ex_w, ex_n]
    omega
  | mul a b iha ihb =>
    intro h
    have := two _ _ _ _ (iha h.1) (ihb h.2)
    simp only [ex_w, ex_n]
    omega
  | sub a b iha ihb =>
    intro h
    exact two _ _ _ _ (iha h.1) (ihb h.2)
  | pow a k ih =>
    intro h
    have h1 := ih h.1
    have h2 : ex_m k ≤ 4 := by
      unfold ex_m
      split <;> omega
    simp only [ex_w, ex_n]
    rw [Nat.pow_add, Nat.pow_one]
    have h3 : ex_m k * ex_w a ≤ 4 * ex_w a := Nat.mul_le_mul_right _ h2
    omega
theorem ex_w_lt {R : ex_T} (hW : ex_W R) (hn : ex_n R ≤ 16) : ex_w R ≤ 2 ^ 30 := by
  have h1 := ex_w4 R hW
  have h2 : 4 ^ ex_n R ≤ 4 ^ 16 := Nat.pow_le_pow_right (by omega) hn
  have h3 : (4 : Nat) ^ 16 = 4 * 2 ^ 30 := by decide
  omega
def wc_n (w : Nat) : Nat := if w ≤ 1000 then w else 1000
/-- the reference's weights of a tree and of all its parts -/
def wg_P (wt : Nat → Int32) : ex_T → Nat → Prop
  | .var i => fun b => wt b = nI (wc_n (ex_w (.var i)))
  | .num i => fun b => wt b = nI (wc_n (ex_w (.num i)))
  | .natCast _ => fun _ => False
  | .intCast _ => fun _ => False
  | .neg x => fun b => wt b = nI (wc_n (ex_w (.neg x))) ∧ wg_P wt x (b + 1)
  | .add x y => fun b => wt b = nI (wc_n (ex_w (.add x y))) ∧ wg_P wt x (b + 1) ∧ wg_P wt y (b + 1 + ex_n x)
  | .mul x y => fun b => wt b = nI (wc_n (ex_w (.mul x y))) ∧ wg_P wt x (b + 1) ∧ wg_P wt y (b + 1 + ex_n x)
  | .sub x y => fun b => wt b = nI (wc_n (ex_w (.sub x y))) ∧ wg_P wt x (b + 1) ∧ wg_P wt y (b + 1 + ex_n x)
  | .pow x k => fun b => wt b = nI (wc_n (ex_w (.pow x k))) ∧ wg_P wt x (b + 1)
theorem wg_b {wt : Nat → Int32} : ∀ {R : ex_T} {b : Nat}, wg_P wt R b → wt b = nI (wc_n (ex_w R)) := by
  intro R b h
  cases R with
  | var i => exact h
  | num i => exact h
  | natCast i => exact h.elim
  | intCast i => exact h.elim
  | neg x => exact h.1
  | add x y => exact h.1
  | mul x y => exact h.1
  | sub x y => exact h.1
  | pow x k => exact h.1
theorem wg_cg {wt wt' : Nat → Int32} : ∀ (R : ex_T) (b : Nat), (∀ j, b ≤ j → wt' j = wt j) → wg_P wt R b → wg_P wt' R b := by
  intro R
  induction R with
  | var i => intro b h hP; exact (h b (Nat.le_refl _)).trans hP
  | num i => intro b h hP; exact (h b (Nat.le_refl _)).trans hP
  | natCast i => intro b h hP; exact hP.elim
  | intCast i => intro b h hP; exact hP.elim
  | neg x ih => intro b h hP; exact ⟨(h b (Nat.le_refl _)).trans hP.1, ih _ (fun j hj => h j (by omega)) hP.2⟩
  | add x y ihx ihy => intro b h hP; exact ⟨(h b (Nat.le_refl _)).trans hP.1, ihx _ (fun j hj => h j (by omega)) hP.2.1, ihy _ (fun j hj => h j (by omega)) hP.2.2⟩
  | mul x y ihx ihy => intro b h hP; exact ⟨(h b (Nat.le_refl _)).trans hP.1, ihx _ (fun j hj => h j (by omega)) hP.2.1, ihy _ (fun j hj => h j (by omega)) hP.2.2⟩
  | sub x y ihx ihy => intro b h hP; exact ⟨(h b (Nat.le_refl _)).trans hP.1, ihx _ (fun j hj => h j (by omega)) hP.2.1, ihy _ (fun j hj => h j (by omega)) hP.2.2⟩
  | pow x k ih => intro b h hP; exact ⟨(h b (Nat.le_refl _)).trans hP.1, ih _ (fun j hj => h j (by omega)) hP.2⟩
section
variable {drafted latestPlace positions fragments elementCount : Int32} {draftKind draftValue weights tokenAt fragmentBegin fragmentFirst fragmentLast fragmentEmpty reachedWith follow bearing accepting kindOfType leastOf greatestOf listedCount listedValue attributeUse attributeType typeOfName inUse nameOf parentOf kidCount kids hasValue valueOf hasAttribute attributeValue walked waiting : Nat → Int32} {yplace yroot yrowLength yfirst youts ytop : Int32} {ykind ywith ysize ysort ymany yuse ytypeOf yleast ygreatest ylisted ytypeOfName yused yvalued ygiven yname yparent ychildren ycount yrow yvalue yattributes yends ylack yshortest youtKind youtWith ywork yworkWith yweight yfollow yfirsts ylasts ybare ymet ynameAt ytokenAt ytodo : Nat → Int32}
theorem sx_one4 {post : Int32 → Prop} {d : Nat} {kd : Nat → Nat} (hd : d ≤ 16) (hk : ∀ i, i < d → draftKind i = nI (kd i) ∧ kd i < 9) : ∀ m i c, i + m = d → c + m ≤ 40 → (ex_sc kd m i c → post 1) → (¬ ex_sc kd m i c → post 0) → wX_isOneExpression_4 post (nI d) latestPlace positions fragments elementCount draftKind draftValue weights tokenAt fragmentBegin fragmentFirst fragmentLast fragmentEmpty reachedWith follow bearing accepting kindOfType leastOf greatestOf listedCount listedValue attributeUse attributeType typeOfName inUse nameOf parentOf kidCount kids hasValue valueOf hasAttribute attributeValue walked waiting (m + 1) (nI c) (nI i) := by
  intro m
  induction m with
  | zero =>
    intro i c hi hc h1 h0
    exact br_t (nI_le (by omega) (by omega)) (pk_eq c 0 (fun q => h1 q) (fun q => h0 q))
  | succ m ih =>
    intro i c hi hc h1 h0
    refine br_f (nI_ge (by omega) (by omega)) (pk_eq c 0 (fun q => h0 (fun q2 => q2.1 q)) (fun q => ⟨vp_in_nI (by omega) (by omega), ?_⟩))
    obtain ⟨k1, k2⟩ := hk i (by omega)
    rw [nb_cl (by omega), k1]
    obtain ⟨c, rfl⟩ : ∃ c', c = c' + 1 := ⟨c - 1, by omega⟩
    have hp : ex_pt (kd i) ≤ 2 := by unfold ex_pt; split; omega; split <;> omega
    refine sx_parts k2 (nm_r (nb_pt c _) (nm_r (nI_1 i) (ih (i + 1) _ (by omega) (by omega) (fun q2 => h1 ⟨by omega, ?_⟩) (fun q2 => h0 (fun q3 => q2 ?_)))))
    · rw [show c + 1 + ex_pt (kd i) - 1 = c + ex_pt (kd i) by omega]; exact q2
    · have := q3.2
      rw [show c + 1 + ex_pt (kd i) - 1 = c + ex_pt (kd i) by omega] at this
      exact this
theorem sx_isOne {post : Int32 → Prop} {d : Nat} {kd : Nat → Nat} (hd : d ≤ 16) (hk : ∀ i, i < d → draftKind i = nI (kd i) ∧ kd i < 9) (h1 : ex_sc kd d 0 1 → post 1) (h0 : ¬ ex_sc kd d 0 1 → post 0) : wpX_isOneExpression post (nI d, latestPlace, positions, fragments, elementCount, draftKind, draftValue, weights, tokenAt, fragmentBegin, fragmentFirst, fragmentLast, fragmentEmpty, reachedWith, follow, bearing, accepting, kindOfType, leastOf, greatestOf, listedCount, listedValue, attributeUse, attributeType, typeOfName, inUse, nameOf, parentOf, kidCount, kids, hasValue, valueOf, hasAttribute, attributeValue, walked, waiting) :=
  ⟨d + 1, sx_one4 hd hk d 0 1 (by omega) (by omega) h1 h0⟩
theorem sy_one5 {post : Int32 → Prop} {d : Nat} {kd : Nat → Nat} (hd : d ≤ 16) (hk : ∀ i, i < d → ykind (96 + i) = nI (kd i) ∧ kd i < 9) : ∀ m i c, i + m = d → c + m ≤ 40 → (ex_sc kd m i c → post (nI (96 + d))) → (¬ ex_sc kd m i c → ∀ r : Int32, r ≠ nI (96 + d) → post r) → wY_endOf_5 post (nI (96 + d)) yplace yroot yrowLength yfirst youts ytop ykind ywith ysize ysort ymany yuse ytypeOf yleast ygreatest ylisted ytypeOfName yused yvalued ygiven yname yparent ychildren ycount yrow yvalue yattributes yends ylack yshortest youtKind youtWith ywork yworkWith yweight yfollow yfirsts ylasts ybare ymet ynameAt ytokenAt ytodo (m + 1) (nI c) (nI (96 + i)) := by
  intro m
  induction m with
  | zero =>
    intro i c hi hc h1 h0
    by_cases c0 : c = 0
    · subst c0
      refine br_t (by decide) (br_t (by decide) ?_)
      rw [show i = d by omega]
      exact h1 rfl
    · have nc : ¬ nI c ≤ 0 := by rw [nb_le0 (by omega)]; exact c0
      refine br_f nc (br_t (nI_le (by omega) (by omega)) (br_f nc (h0 c0 _ ?_)))
      rw [nI_1]
      exact fun q => absurd ((nI_eq (by omega) (by omega)).mp q) (by omega)
  | succ m ih =>
    intro i c hi hc h1 h0
    by_cases c0 : c = 0
    · subst c0
      refine br_t (by decide) (br_t (by decide) (h0 (fun q => q.1 rfl) _ ?_))
      exact fun q => absurd ((nI_eq (by omega) (by omega)).mp q) (by omega)
    · have nc : ¬ nI c ≤ 0 := by rw [nb_le0 (by omega)]; exact c0
      refine br_f nc (br_f (nI_ge (by omega) (by omega)) ⟨vp_in_nI (by omega) (by omega), ?_⟩)
      obtain ⟨k1, k2⟩ := hk i (by omega)
      rw [nb_cl (by omega), k1]
      obtain ⟨c, rfl⟩ : ∃ c', c = c' + 1 := ⟨c - 1, by omega⟩
      have hp : ex_pt (kd i) ≤ 2 := by unfold ex_pt; split; omega; split <;> omega
      refine sy_parts k2 (nm_r (nb_pt c _) (nm_r (nI_1 _) (ih (i + 1) _ (by omega) (by omega) (fun q2 => h1 ⟨by omega, ?_⟩) (fun q2 => h0 (fun q3 => q2 ?_)))))
      · rw [show c + 1 + ex_pt (kd i) - 1 = c + ex_pt (kd i) by omega]; exact q2
      · have := q3.2
        rw [show c + 1 + ex_pt (kd i) - 1 = c + ex_pt (kd i) by omega] at this
        exact this
theorem sy_one {post : Int32 → Prop} {d : Nat} {kd : Nat → Nat} (hd : d ≤ 16) (hk : ∀ i, i < d → ykind (96 + i) = nI (kd i) ∧ kd i < 9) (h1 : ex_sc kd d 0 1 → post (nI (96 + d))) (h0 : ¬ ex_sc kd d 0 1 → ∀ r : Int32, r ≠ nI (96 + d) → post r) : wpY_endOf post (yplace, yroot, yrowLength, yfirst, youts, ytop, ykind, ywith, ysize, ysort, ymany, yuse, ytypeOf, yleast, ygreatest, ylisted, ytypeOfName, yused, yvalued, ygiven, yname, yparent, ychildren, ycount, yrow, yvalue, yattributes, yends, ylack, yshortest, youtKind, youtWith, ywork, yworkWith, yweight, yfollow, yfirsts, ylasts, ybare, ymet, ynameAt, ytokenAt, ytodo) (nI 96) (nI (96 + d)) :=
  ⟨d + 1, sy_one5 hd hk d 0 1 (by omega) (by omega) h1 h0⟩
/-- the component's weight of a tree, on a pile of s weights -/
theorem sx_dwT {post : Int32 → SX → Prop} {d : Nat} {kd vl : Nat → Nat} (hd : d ≤ 16) (hk : ∀ i, i < d → draftKind i = nI (kd i) ∧ kd i < 9 ∧ (kd i = 8 → draftValue i = nI (vl i) ∧ vl i < 16)) : ∀ (R : ex_T) (b s fu : Nat) (wt : Nat → Int32), ex_S kd vl R b → b + ex_n R ≤ d → s + b + ex_n R ≤ 16 → (∀ wt' : Nat → Int32, wt' s = nI (ex_w R) → (∀ j, j < s → wt' j = wt j) → wX_draftWeight_9 post (nI d) latestPlace positions fragments elementCount fu (nI s) (nI b + (-1)) draftKind draftValue wt' tokenAt fragmentBegin fragmentFirst fragmentLast fragmentEmpty reachedWith follow bearing accepting kindOfType leastOf greatestOf listedCount listedValue attributeUse attributeType typeOfName inUse nameOf parentOf kidCount kids hasValue valueOf hasAttribute attributeValue walked waiting) → wX_draftWeight_9 post (nI d) latestPlace positions fragments elementCount (fu + ex_n R) (nI s + (-1)) (nI (b + ex_n R) + (-1)) draftKind draftValue wt tokenAt fragmentBegin fragmentFirst fragmentLast fragmentEmpty reachedWith follow bearing accepting kindOfType leastOf greatestOf listedCount listedValue attributeUse attributeType typeOfName inUse nameOf parentOf kidCount kids hasValue valueOf hasAttribute attributeValue walked waiting := by
  have head : ∀ (b kk s fu : Nat) (x1 : Int32) (wt : Nat → Int32), b < d → kd b = kk → ((nI (ex_pt kk) = 0 → ∀ y : Int32, y = x1 + 1 → ((nI kk = 0 → (vp_in y 16 ∧ ∀ a : Nat → Int32, a = upd wt y.toNatClampNeg 1 → ∀ z : Int32, z = nI b + (-1) → wX_draftWeight_9 post (nI d) latestPlace positions fragments elementCount fu y z draftKind draftValue a tokenAt fragmentBegin fragmentFirst fragmentLast fragmentEmpty reachedWith follow bearing accepting kindOfType leastOf greatestOf listedCount listedValue attributeUse attributeType typeOfName inUse nameOf parentOf kidCount kids hasValue valueOf hasAttribute attributeValue walked waiting)) ∧ (¬ nI kk = 0 → (vp_in y 16 ∧ ∀ a : Nat → Int32, a = upd wt y.toNatClampNeg 0 → ∀ z : Int32, z = nI b + (-1) → wX_draftWeight_9 post (nI d) latestPlace positions fragments elementCount fu y z draftKind draftValue a tokenAt fragmentBegin fragmentFirst fragmentLast fragmentEmpty reachedWith follow bearing accepting kindOfType leastOf greatestOf listedCount listedValue attributeUse attributeType typeOfName inUse nameOf parentOf kidCount kids hasValue valueOf hasAttribute attributeValue walked waiting)))) ∧ (¬ nI (ex_pt kk) = 0 → wpX_partsOf (fun r_7 => ((r_7 = 2 → ∀ y : Int32, y = x1 + (-1) → (vp_in y 16 ∧ (vp_in (y + 1) 16 ∧ ∀ x4 : Int32, x4 = wt y.toNatClampNeg + wt (y + 1).toNatClampNeg → ((nI kk = 7 → (vp_in y 16 ∧ ∀ a : Nat → Int32, a = upd wt y.toNatClampNeg (2 * x4) → ∀ z : Int32, z = nI b + (-1) → wX_draftWeight_9 post (nI d) latestPlace positions fragments elementCount fu y z draftKind draftValue a tokenAt fragmentBegin fragmentFirst fragmentLast fragmentEmpty reachedWith follow bearing accepting kindOfType leastOf greatestOf listedCount listedValue attributeUse attributeType typeOfName inUse nameOf parentOf kidCount kids hasValue valueOf hasAttribute attributeValue walked waiting)) ∧ (¬ nI kk = 7 → (vp_in y 16 ∧ ∀ a : Nat → Int32, a = upd wt y.toNatClampNeg x4 → ∀ z : Int32, z = nI b + (-1) → wX_draftWeight_9 post (nI d) latestPlace positions fragments elementCount fu y z draftKind draftValue a tokenAt fragmentBegin fragmentFirst fragmentLast fragmentEmpty reachedWith follow bearing accepting kindOfType leastOf greatestOf listedCount listedValue attributeUse attributeType typeOfName inUse nameOf parentOf kidCount kids hasValue valueOf hasAttribute attributeValue walked waiting)))))) ∧ (¬ r_7 = 2 → ((nI kk = 8 → (vp_in (nI b) 16 ∧ wpX_mostTimes (fun r_12 => (vp_in x1 16 ∧ (vp_in x1 16 ∧ ∀ a : Nat → Int32, a = upd wt x1.toNatClampNeg (r_12 * wt x1.toNatClampNeg) → ∀ z : Int32, z = nI b + (-1) → wX_draftWeight_9 post (nI d) latestPlace positions fragments elementCount fu x1 z draftKind draftValue a tokenAt fragmentBegin fragmentFirst fragmentLast fragmentEmpty reachedWith follow bearing accepting kindOfType leastOf greatestOf listedCount listedValue attributeUse attributeType typeOfName inUse nameOf parentOf kidCount kids hasValue valueOf hasAttribute attributeValue walked waiting))) (draftValue b))) ∧ (¬ nI kk = 8 → ∀ z : Int32, z = nI b + (-1) → wX_draftWeight_9 post (nI d) latestPlace positions fragments elementCount fu x1 z draftKind draftValue wt tokenAt fragmentBegin fragmentFirst fragmentLast fragmentEmpty reachedWith follow bearing accepting kindOfType leastOf greatestOf listedCount listedValue attributeUse attributeType typeOfName inUse nameOf parentOf kidCount kids hasValue valueOf hasAttribute attributeValue walked waiting))))) (nI kk))) → wX_draftWeight_9 post (nI d) latestPlace positions fragments elementCount (fu + 1) x1 (nI (b + 1) + (-1)) draftKind draftValue wt tokenAt fragmentBegin fragmentFirst fragmentLast fragmentEmpty reachedWith follow bearing accepting kindOfType leastOf greatestOf listedCount listedValue attributeUse attributeType typeOfName inUse nameOf parentOf kidCount kids hasValue valueOf hasAttribute attributeValue walked waiting := by
    intro b kk s fu x1 wt hb hkk h
    obtain ⟨k1, k2, _⟩ := hk b hb
    rw [nb_a1]
    show (nI b < 0 → _) ∧ _
    refine br_f (nI_pos (by omega)) ⟨vp_in_nI (by omega) (by omega), nm_r (e' := nI kk) (by rw [nb_cl (by omega), k1, hkk]) ?_⟩
    rw [nb_cl (n := b) (by omega)]
    exact sx_parts (by omega) h
  have two : ∀ (P Q : ex_T) (kk W : Nat), (kk = 1 ∨ kk = 2 ∨ kk = 7) → W = (if kk = 7 then 2 * (ex_w P + ex_w Q) else ex_w P + ex_w Q) →
      (∀ (b s fu : Nat) (wt : Nat → Int32), ex_S kd vl P b → b + ex_n P ≤ d → s + b + ex_n P ≤ 16 → (∀ wt' : Nat → Int32, wt' s = nI (ex_w P) → (∀ j, j < s → wt' j = wt j) → wX_draftWeight_9 post (nI d) latestPlace positions fragments elementCount fu (nI s) (nI b + (-1)) draftKind draftValue wt' tokenAt fragmentBegin fragmentFirst fragmentLast fragmentEmpty reachedWith follow bearing accepting kindOfType leastOf greatestOf listedCount listedValue attributeUse attributeType typeOfName inUse nameOf parentOf kidCount kids hasValue valueOf hasAttribute attributeValue walked waiting) → wX_draftWeight_9 post (nI d) latestPlace positions fragments elementCount (fu + ex_n P) (nI s + (-1)) (nI (b + ex_n P) + (-1)) draftKind draftValue wt tokenAt fragmentBegin fragmentFirst fragmentLast fragmentEmpty reachedWith follow bearing accepting kindOfType leastOf greatestOf listedCount listedValue attributeUse attributeType typeOfName inUse nameOf parentOf kidCount kids hasValue valueOf hasAttribute attributeValue walked waiting) →
      (∀ (b s fu : Nat) (wt : Nat → Int32), ex_S kd vl Q b → b + ex_n Q ≤ d → s + b + ex_n Q ≤ 16 → (∀ wt' : Nat → Int32, wt' s = nI (ex_w Q) → (∀ j, j < s → wt' j = wt j) → wX_draftWeight_9 post (nI d) latestPlace positions fragments elementCount fu (nI s) (nI b + (-1)) draftKind draftValue wt' tokenAt fragmentBegin fragmentFirst fragmentLast fragmentEmpty reachedWith follow bearing accepting kindOfType leastOf greatestOf listedCount listedValue attributeUse attributeType typeOfName inUse nameOf parentOf kidCount kids hasValue valueOf hasAttribute attributeValue walked waiting) → wX_draftWeight_9 post (nI d) latestPlace positions fragments elementCount (fu + ex_n Q) (nI s + (-1)) (nI (b + ex_n Q) + (-1)) draftKind draftValue wt tokenAt fragmentBegin fragmentFirst fragmentLast fragmentEmpty reachedWith follow bearing accepting kindOfType leastOf greatestOf listedCount listedValue attributeUse attributeType typeOfName inUse nameOf parentOf kidCount kids hasValue valueOf hasAttribute attributeValue walked waiting) →
      ∀ (b s fu : Nat) (wt : Nat → Int32), kd b = kk → ex_S kd vl P (b + 1) → ex_S kd vl Q (b + 1 + ex_n P) → b + (1 + ex_n P + ex_n Q) ≤ d → s + b + (1 + ex_n P + ex_n Q) ≤ 16 → (∀ wt' : Nat → Int32, wt' s = nI W → (∀ j, j < s → wt' j = wt j) → wX_draftWeight_9 post (nI d) latestPlace positions fragments elementCount fu (nI s) (nI b + (-1)) draftKind draftValue wt' tokenAt fragmentBegin fragmentFirst fragmentLast fragmentEmpty reachedWith follow bearing accepting kindOfType leastOf greatestOf listedCount listedValue attributeUse attributeType typeOfName inUse nameOf parentOf kidCount kids hasValue valueOf hasAttribute attributeValue walked waiting) → wX_draftWeight_9 post (nI d) latestPlace positions fragments elementCount (fu + (1 + ex_n P + ex_n Q)) (nI s + (-1)) (nI (b + (1 + ex_n P + ex_n Q)) + (-1)) draftKind draftValue wt tokenAt fragmentBegin fragmentFirst fragmentLast fragmentEmpty reachedWith follow bearing accepting kindOfType leastOf greatestOf listedCount listedValue attributeUse attributeType typeOfName inUse nameOf parentOf kidCount kids hasValue valueOf hasAttribute attributeValue walked waiting := by
    intro P Q kk W hkk hW ihP ihQ b s fu wt hkb hSP hSQ hbd hs h
    have pP := ex_n_pos P
    have pQ := ex_n_pos Q
    rw [show fu + (1 + ex_n P + ex_n Q) = fu + 1 + ex_n P + ex_n Q by omega, show b + (1 + ex_n P + ex_n Q) = b + 1 + ex_n P + ex_n Q by omega]
    refine ihQ (b + 1 + ex_n P) s (fu + 1 + ex_n P) wt hSQ (by omega) (by omega) (fun w1 e1 f1 => ?_)
    rw [show nI s = nI (s + 1) + (-1) from (nb_a1 s).symm]
    refine ihP (b + 1) (s + 1) (fu + 1) w1 hSP (by omega) (by omega) (fun w2 e2 f2 => ?_)
    have v1 : vp_in (nI s) 16 := vp_in_nI (by omega) (by omega)
    have cs : (nI s).toNatClampNeg = s := nb_cl (by omega)
    have n0 : ¬ nI (ex_pt kk) = 0 := by rcases hkk with rfl | rfl | rfl <;> decide
    refine head b kk s fu _ w2 (by omega) hkb (br_f n0 (sx_parts (by omega) (br_t (by rcases hkk with rfl | rfl | rfl <;> rfl) (nm_r (nb_a1 s) ?_))))
    rw [nI_1, cs, nb_cl (n := s + 1) (by omega), e2, f2 s (by omega), e1, nI_add]
    refine ⟨v1, vp_in_nI (by omega) (by omega), nm_e ?_⟩
    have fin : ∀ v : Int32, v = nI W → wX_draftWeight_9 post (nI d) latestPlace positions fragments elementCount fu (nI s) (nI b + (-1)) draftKind draftValue (upd w2 s v) tokenAt fragmentBegin fragmentFirst fragmentLast fragmentEmpty reachedWith follow bearing accepting kindOfType leastOf greatestOf listedCount listedValue attributeUse attributeType typeOfName inUse nameOf parentOf kidCount kids hasValue valueOf hasAttribute attributeValue walked waiting := by
      intro v hv
      refine h _ (by rw [pk_us, hv]) (fun j hj => ?_)
      rw [pk_un (by omega), f2 j (by omega), f1 j (by omega)]
    by_cases q : kk = 7
    · refine br_t (by rw [q]; rfl) ⟨v1, nm_e (nm_e (fin _ ?_))⟩
      rw [hW, if_pos q, show ex_w Q + ex_w P = ex_w P + ex_w Q by omega]
      exact pk_mul 2 _
    · refine br_f (fun e => q ((nI_eq (b := 7) (by omega) (by omega)).mp e)) ⟨v1, nm_e (nm_e (fin _ ?_))⟩
      rw [hW, if_neg q, show ex_w Q + ex_w P = ex_w P + ex_w Q by omega]
  intro R
  induction R with
  | natCast k => intro b s fu wt hS; exact hS.elim
  | intCast k => intro b s fu wt hS; exact hS.elim
  | num k =>
    intro b s fu wt hS hbd hs h
    simp only [ex_n] at hbd hs h ⊢
    refine head b 6 s fu _ wt (by omega) hS (br_t rfl (nm_r (e' := nI s) (by grind) (br_f (by decide) ⟨vp_in_nI (by omega) (by omega), nm_r (e' := upd wt s (nI 0)) (by rw [nb_cl (by omega)]; rfl) (nm_e (h _ pk_us (fun j hj => pk_un (by omega))))⟩)))
  | var i =>
    intro b s fu wt hS hbd hs h
    simp only [ex_n] at hbd hs h ⊢
    refine head b 0 s fu _ wt (by omega) hS.1 (br_t rfl (nm_r (e' := nI s) (by grind) (br_t rfl ⟨vp_in_nI (by omega) (by omega), nm_r (e' := upd wt s (nI 1)) (by rw [nb_cl (by omega)]; rfl) (nm_e (h _ pk_us (fun j hj => pk_un (by omega))))⟩)))
  | neg P ih =>
    intro b s fu wt hS hbd hs h
    simp only [ex_n] at hbd hs h ⊢
    rw [show fu + (1 + ex_n P) = fu + 1 + ex_n P by omega, show b + (1 + ex_n P) = b + 1 + ex_n P by omega]
    refine ih (b + 1) s (fu + 1) wt hS.2 (by omega) (by omega) (fun w1 e1 f1 => ?_)
    exact head b 3 s fu _ w1 (by omega) hS.1 (br_f (by decide) (sx_parts (by omega) (br_f (by decide) (br_f (by decide) (nm_e (h w1 e1 f1))))))
  | pow P k ih =>
    intro b s fu wt hS hbd hs h
    simp only [ex_n] at hbd hs h ⊢
    obtain ⟨s1, s2⟩ := hS
    rw [show fu + (1 + ex_n P) = fu + 1 + ex_n P by omega, show b + (1 + ex_n P) = b + 1 + ex_n P by omega]
    refine ih (b + 1) s (fu + 1) wt s2 (by omega) (by omega) (fun w1 e1 f1 => ?_)
    rcases s1 with ⟨r1, r2, r3⟩ | ⟨r1, r2⟩ | ⟨r1, r2⟩
    · obtain ⟨_, _, k3⟩ := hk b (by omega)
      obtain ⟨k4, k5⟩ := k3 r2
      have v1 : vp_in (nI s) 16 := vp_in_nI (by omega) (by omega)
      refine head b 8 s fu _ w1 (by omega) r2 (br_f (by decide) (sx_parts (by omega) (br_f (by decide) (br_t rfl ⟨vp_in_nI (by omega) (by omega), ?_⟩))))
      rw [k4]
      refine ⟨v1, v1, nm_r (e' := upd w1 s (nI (vl b % 4 * ex_w P))) (by rw [nb_cl (n := s) (by omega), e1, tk_an (by omega), pk_mul]) (nm_e (h _ ?_ (fun j hj => ?_)))⟩
      · rw [pk_us, r3]
        show nI (k % 4 * ex_w P) = nI (ex_m k * ex_w P)
        unfold ex_m
        rw [if_pos r1]
      · rw [pk_un (by omega), f1 j hj]
    · refine head b 4 s fu _ w1 (by omega) r2 (br_f (by decide) (sx_parts (by omega) (br_f (by decide) (br_f (by decide) (nm_e (h w1 ?_ f1))))))
      rw [e1, r1]
      show nI (ex_w P) = nI (ex_m 16 * ex_w P)
      rw [show ex_m 16 = 1 from rfl, Nat.one_mul]
    · refine head b 5 s fu _ w1 (by omega) r2 (br_f (by decide) (sx_parts (by omega) (br_f (by decide) (br_f (by decide) (nm_e (h w1 ?_ f1))))))
      rw [e1, r1]
      show nI (ex_w P) = nI (ex_m 17 * ex_w P)
      rw [show ex_m 17 = 1 from rfl, Nat.one_mul]
  | add P Q ihP ihQ =>
    intro b s fu wt hS hbd hs h
    simp only [ex_n] at hbd hs h ⊢
    exact two P Q 2 _ (by omega) rfl ihP ihQ b s fu wt hS.1 hS.2.1 hS.2.2 hbd hs h
  | mul P Q ihP ihQ =>
    intro b s fu wt hS hbd hs h
    simp only [ex_n] at hbd hs h ⊢
    exact two P Q 1 _ (by omega) rfl ihP ihQ b s fu wt hS.1 hS.2.1 hS.2.2 hbd hs h
  | sub P Q ihP ihQ =>
    intro b s fu wt hS hbd hs h
    simp only [ex_n] at hbd hs h ⊢
    exact two P Q 7 _ (by omega) rfl ihP ihQ b s fu wt hS.1 hS.2.1 hS.2.2 hbd hs h
theorem sx_draftWeight {post : Int32 → SX → Prop} {kd vl : Nat → Nat} {R : ex_T} (hd : ex_n R ≤ 16) (hk : ∀ i, i < ex_n R → draftKind i = nI (kd i) ∧ kd i < 9 ∧ (kd i = 8 → draftValue i = nI (vl i) ∧ vl i < 16)) (hS : ex_S kd vl R 0) (h : ∀ wt : Nat → Int32, post (nI (ex_w R)) (nI (ex_n R), latestPlace, positions, fragments, elementCount, draftKind, draftValue, wt, tokenAt, fragmentBegin, fragmentFirst, fragmentLast, fragmentEmpty, reachedWith, follow, bearing, accepting, kindOfType, leastOf, greatestOf, listedCount, listedValue, attributeUse, attributeType, typeOfName, inUse, nameOf, parentOf, kidCount, kids, hasValue, valueOf, hasAttribute, attributeValue, walked, waiting)) : wpX_draftWeight post (nI (ex_n R), latestPlace, positions, fragments, elementCount, draftKind, draftValue, weights, tokenAt, fragmentBegin, fragmentFirst, fragmentLast, fragmentEmpty, reachedWith, follow, bearing, accepting, kindOfType, leastOf, greatestOf, listedCount, listedValue, attributeUse, attributeType, typeOfName, inUse, nameOf, parentOf, kidCount, kids, hasValue, valueOf, hasAttribute, attributeValue, walked, waiting) := by
  refine nm_r (e' := nI (0 + ex_n R) + (-1)) (by rw [nb_dec, Nat.zero_add]) ⟨1 + ex_n R, ?_⟩
  refine sx_dwT (d := ex_n R) (kd := kd) (vl := vl) hd hk R 0 0 1 weights hS (by omega) (by omega) (fun wt e _ => br_t nb_d0 ?_)
  rw [e]
  exact h wt
end
