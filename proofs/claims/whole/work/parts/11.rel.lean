/-! ===== the relation ===== -/
/-- the tokens at o .. o + n: kd, vl are their kinds and values -/
def rl_K (yk yw : Nat → Int32) (o n : Nat) (kd vl : Nat → Nat) : Prop := ∀ i, i < n → yk (o + i) = nI (kd i) ∧ kd i < 9 ∧ (kd i = 0 → vl i < 6) ∧ (kd i = 8 → vl i < 16 ∧ vl i / 4 ≤ vl i % 4 ∧ 1 ≤ vl i % 4) ∧ (kd i = 0 ∨ kd i = 8 → yw (o + i) = nI (vl i))
/-- the draft -/
def rl_D (d : Nat) (dk dv yk yw ys : Nat → Int32) : Prop := d ≤ 16 ∧ ys 6 = nI d ∧ ∃ kd vl, rl_K yk yw 96 d kd vl ∧ ∀ i, i < d → dk i = nI (kd i) ∧ (kd i = 0 ∨ kd i = 8 → dv i = nI (vl i))
/-- ranges -/
def rl_T (so mn us ty tn : Nat → Int32) : Prop := (∀ t, t < 6 → ∃ s, s < 3 ∧ so t = nI s) ∧ (∀ t, t < 6 → ∃ c, c ≤ 4 ∧ mn t = nI c) ∧ (∀ j, j < 24 → (∃ c, c < 3 ∧ us j = nI c) ∧ ∃ c, c < 6 ∧ ty j = nI c) ∧ (∀ n, n < 6 → tn n = -1 ∨ ∃ t, t < 6 ∧ tn n = nI t)
/-- the models: what the reference holds spells a tree, the component's automaton takes its words -/
def rl_M1 (t : Nat) (fo be ac yk yw ys : Nat → Int32) : Prop := ∃ kd vl R, ex_n R ≤ 16 ∧ ys t = nI (ex_n R) ∧ rl_K yk yw (16 * t) (ex_n R) kd vl ∧ ex_S kd vl R 0 ∧ ex_W R ∧ ex_w R ≤ 30 ∧ xa_OK (fun s => fo (31 * t + s)) (fun c => be (6 * t + c)) (ac t) (ex_L vl R)
def rl_M (so fo be ac yk yw ys : Nat → Int32) : Prop := ∀ t, t < 6 → so t = nI 2 → rl_M1 t fo be ac yk yw ys
/-- the parent as a number -/
def rl_p : Option Nat → Int32
  | none => -1
  | some p => nI p
/-- the document -/
def rl_E1 (iu nm pp ct kc yp : Nat → Int32) (po : Nat → Option Nat) (c : Nat → Nat) (ch : Nat → Nat → Nat) (g rk : Nat → Nat) : Prop :=
  (∀ e, iu e = 0 ∨ iu e = 1) ∧ (∀ e, e < 24 → nm e = nI (g e) ∧ g e < 6) ∧ (∀ e, e < 24 → iu e ≠ 0 → ct e = nI (c e) ∧ pp e = rl_p (po e) ∧ yp e = rl_p (po e)) ∧
  (∀ e k, e < 24 → iu e ≠ 0 → k < c e → kc (24 * e + k) = nI (ch e k)) ∧ tr_I (fun e => iu e ≠ 0) po c ch rk
def rl_E (ec root : Int32) (iu nm pp ct kc yp : Nat → Int32) : Prop := ec = nI (tr_cn iu 24) ∧ root = (if iu 0 = 0 then -1 else 0) ∧ (∀ j, j < 600 → vp_nar .byte (kc j) = kc j) ∧ ∃ po c ch g rk, rl_E1 iu nm pp ct kc yp po c ch g rk
def i_Rel (_ : Nat) (u : SX) (v : SY) : Prop := ∃ (drafted latestPlace positions fragments elementCount : Int32) (draftKind draftValue weights tokenAt fragmentBegin fragmentFirst fragmentLast fragmentEmpty reachedWith follow bearing accepting kindOfType leastOf greatestOf listedCount listedValue attributeUse attributeType typeOfName inUse nameOf parentOf kidCount kids hasValue valueOf hasAttribute attributeValue walked waiting : Nat → Int32) (yroot yrowLength yfirst youts ytop : Int32) (ykind ywith ysize yparent yrow yends ylack yshortest youtKind youtWith ywork yworkWith yweight yfollow yfirsts ylasts ybare ymet ynameAt ytokenAt ytodo : Nat → Int32), u = ((drafted, latestPlace, positions, fragments, elementCount, draftKind, draftValue, weights, tokenAt, fragmentBegin, fragmentFirst, fragmentLast, fragmentEmpty, reachedWith, follow, bearing, accepting, kindOfType, leastOf, greatestOf, listedCount, listedValue, attributeUse, attributeType, typeOfName, inUse, nameOf, parentOf, kidCount, kids, hasValue, valueOf, hasAttribute, attributeValue, walked, waiting) : SX) ∧ v = ((latestPlace, yroot, yrowLength, yfirst, youts, ytop, ykind, ywith, ysize, kindOfType, listedCount, attributeUse, attributeType, leastOf, greatestOf, listedValue, typeOfName, inUse, hasValue, hasAttribute, nameOf, yparent, kids, kidCount, yrow, valueOf, attributeValue, yends, ylack, yshortest, youtKind, youtWith, ywork, yworkWith, yweight, yfollow, yfirsts, ylasts, ybare, ymet, ynameAt, ytokenAt, ytodo) : SY) ∧ (∃ d, drafted = nI d ∧ rl_D d draftKind draftValue ykind ywith ysize) ∧ rl_T kindOfType listedCount attributeUse attributeType typeOfName ∧ rl_M kindOfType follow bearing accepting ykind ywith ysize ∧ rl_E elementCount yroot inUse nameOf parentOf kidCount kids yparent
section
variable {drafted latestPlace positions fragments elementCount : Int32} {draftKind draftValue weights tokenAt fragmentBegin fragmentFirst fragmentLast fragmentEmpty reachedWith follow bearing accepting kindOfType leastOf greatestOf listedCount listedValue attributeUse attributeType typeOfName inUse nameOf parentOf kidCount kids hasValue valueOf hasAttribute attributeValue walked waiting : Nat → Int32} {yroot yrowLength yfirst youts ytop : Int32} {ykind ywith ysize yparent yrow yends ylack yshortest youtKind youtWith ywork yworkWith yweight yfollow yfirsts ylasts ybare ymet ynameAt ytokenAt ytodo : Nat → Int32}
theorem i_mk {k d : Nat} (h1 : rl_D d draftKind draftValue ykind ywith ysize) (h2 : rl_T kindOfType listedCount attributeUse attributeType typeOfName) (h3 : rl_M kindOfType follow bearing accepting ykind ywith ysize) (h4 : rl_E elementCount yroot inUse nameOf parentOf kidCount kids yparent) : i_Rel k (nI d, latestPlace, positions, fragments, elementCount, draftKind, draftValue, weights, tokenAt, fragmentBegin, fragmentFirst, fragmentLast, fragmentEmpty, reachedWith, follow, bearing, accepting, kindOfType, leastOf, greatestOf, listedCount, listedValue, attributeUse, attributeType, typeOfName, inUse, nameOf, parentOf, kidCount, kids, hasValue, valueOf, hasAttribute, attributeValue, walked, waiting) (latestPlace, yroot, yrowLength, yfirst, youts, ytop, ykind, ywith, ysize, kindOfType, listedCount, attributeUse, attributeType, leastOf, greatestOf, listedValue, typeOfName, inUse, hasValue, hasAttribute, nameOf, yparent, kids, kidCount, yrow, valueOf, attributeValue, yends, ylack, yshortest, youtKind, youtWith, ywork, yworkWith, yweight, yfollow, yfirsts, ylasts, ybare, ymet, ynameAt, ytokenAt, ytodo) :=
  ⟨nI d, latestPlace, positions, fragments, elementCount, draftKind, draftValue, weights, tokenAt, fragmentBegin, fragmentFirst, fragmentLast, fragmentEmpty, reachedWith, follow, bearing, accepting, kindOfType, leastOf, greatestOf, listedCount, listedValue, attributeUse, attributeType, typeOfName, inUse, nameOf, parentOf, kidCount, kids, hasValue, valueOf, hasAttribute, attributeValue, walked, waiting, yroot, yrowLength, yfirst, youts, ytop, ykind, ywith, ysize, yparent, yrow, yends, ylack, yshortest, youtKind, youtWith, ywork, yworkWith, yweight, yfollow, yfirsts, ylasts, ybare, ymet, ynameAt, ytokenAt, ytodo, rfl, rfl, ⟨d, rfl, h1⟩, h2, h3, h4⟩
end
theorem i_el {k : Nat} {u : SX} {v : SY} (I : i_Rel k u v) {P : SX → SY → Prop} (h : ∀ (d : Nat) (latestPlace positions fragments elementCount : Int32) (draftKind draftValue weights tokenAt fragmentBegin fragmentFirst fragmentLast fragmentEmpty reachedWith follow bearing accepting kindOfType leastOf greatestOf listedCount listedValue attributeUse attributeType typeOfName inUse nameOf parentOf kidCount kids hasValue valueOf hasAttribute attributeValue walked waiting : Nat → Int32) (yroot yrowLength yfirst youts ytop : Int32) (ykind ywith ysize yparent yrow yends ylack yshortest youtKind youtWith ywork yworkWith yweight yfollow yfirsts ylasts ybare ymet ynameAt ytokenAt ytodo : Nat → Int32), rl_D d draftKind draftValue ykind ywith ysize → rl_T kindOfType listedCount attributeUse attributeType typeOfName → rl_M kindOfType follow bearing accepting ykind ywith ysize → rl_E elementCount yroot inUse nameOf parentOf kidCount kids yparent → P (nI d, latestPlace, positions, fragments, elementCount, draftKind, draftValue, weights, tokenAt, fragmentBegin, fragmentFirst, fragmentLast, fragmentEmpty, reachedWith, follow, bearing, accepting, kindOfType, leastOf, greatestOf, listedCount, listedValue, attributeUse, attributeType, typeOfName, inUse, nameOf, parentOf, kidCount, kids, hasValue, valueOf, hasAttribute, attributeValue, walked, waiting) (latestPlace, yroot, yrowLength, yfirst, youts, ytop, ykind, ywith, ysize, kindOfType, listedCount, attributeUse, attributeType, leastOf, greatestOf, listedValue, typeOfName, inUse, hasValue, hasAttribute, nameOf, yparent, kids, kidCount, yrow, valueOf, attributeValue, yends, ylack, yshortest, youtKind, youtWith, ywork, yworkWith, yweight, yfollow, yfirsts, ylasts, ybare, ymet, ynameAt, ytokenAt, ytodo)) : P u v := by
  obtain ⟨drafted, latestPlace, positions, fragments, elementCount, draftKind, draftValue, weights, tokenAt, fragmentBegin, fragmentFirst, fragmentLast, fragmentEmpty, reachedWith, follow, bearing, accepting, kindOfType, leastOf, greatestOf, listedCount, listedValue, attributeUse, attributeType, typeOfName, inUse, nameOf, parentOf, kidCount, kids, hasValue, valueOf, hasAttribute, attributeValue, walked, waiting, yroot, yrowLength, yfirst, youts, ytop, ykind, ywith, ysize, yparent, yrow, yends, ylack, yshortest, youtKind, youtWith, ywork, yworkWith, yweight, yfollow, yfirsts, ylasts, ybare, ymet, ynameAt, ytokenAt, ytodo, rfl, rfl, ⟨d, rfl, hD⟩, hT, hM, hE⟩ := I
  exact h _ _ _ _ _ _ _ _ _ _ _ _ _ _ _ _ _ _ _ _ _ _ _ _ _ _ _ _ _ _ _ _ _ _ _ _ _ _ _ _ _ _ _ _ _ _ _ _ _ _ _ _ _ _ _ _ _ _ _ _ _ _ hD hT hM hE
theorem i_up {k : Nat} {u : SX} {v : SY} (h : i_Rel k u v) : i_Rel (k + 5) u v := h
theorem rl_K_cg {yk yw yk' yw' : Nat → Int32} {o o' n : Nat} {kd vl : Nat → Nat} (h : rl_K yk yw o n kd vl) (h1 : ∀ i, i < n → yk' (o' + i) = yk (o + i)) (h2 : ∀ i, i < n → yw' (o' + i) = yw (o + i)) : rl_K yk' yw' o' n kd vl := by
  intro i hi
  obtain ⟨a1, a2, a3, a4, a5⟩ := h i hi
  refine ⟨(h1 i hi).trans a1, a2, a3, a4, fun hk => (h2 i hi).trans (a5 hk)⟩
theorem xa_OK_cg {fo be fo' be' : Nat → Int32} {ac ac' : Int32} {L : List Nat → Prop} (h : xa_OK fo be ac L) (h1 : ∀ s, s < 31 → fo' s = fo s) (h2 : ∀ n, n < 6 → be' n = be n) (h3 : ac' = ac) : xa_OK fo' be' ac' L := by
  have key : ∀ (w : List Nat), xa_N w → ∀ s, s < 31 → (xa_B fo' be' ac' w s ↔ xa_B fo be ac w s) := by
    intro w
    induction w with
    | nil => intro _ s _; rw [h3]; exact Iff.rfl
    | cons n w ih =>
      intro hN s hs
      obtain ⟨hn, hN⟩ := xa_N_cons.mp hN
      constructor
      · rintro ⟨q, b1, b2, b3⟩
        rw [h1 s hs] at b1
        rw [h2 n hn] at b2
        have hq := (h.2.2 s q hs b1).1
        exact ⟨q, b1, b2, (ih hN q (by omega)).mp b3⟩
      · rintro ⟨q, b1, b2, b3⟩
        have hq := (h.2.2 s q hs b1).1
        exact ⟨q, by rw [h1 s hs]; exact b1, by rw [h2 n hn]; exact b2, (ih hN q (by omega)).mpr b3⟩
  refine ⟨fun w hN => (key w hN 30 (by omega)).trans (h.1 w hN), h.2.1, ?_⟩
  intro s q hs b
  rw [h1 s hs] at b
  obtain ⟨a1, ⟨n, hn, a2⟩, w, hN, a3⟩ := h.2.2 s q hs b
  exact ⟨a1, ⟨n, hn, by rw [h2 n hn]; exact a2⟩, w, hN, (key w hN q (by omega)).mpr a3⟩
theorem rl_M_cg {so fo be ac yk yw ys so' fo' be' ac' yk' yw' ys' : Nat → Int32} (h : rl_M so fo be ac yk yw ys) (h0 : ∀ t, t < 6 → so' t = nI 2 → so t = nI 2) (h1 : ∀ j, j < 186 → fo' j = fo j) (h2 : ∀ j, j < 36 → be' j = be j) (h3 : ∀ t, t < 6 → ac' t = ac t) (h4 : ∀ j, j < 96 → yk' j = yk j) (h5 : ∀ j, j < 96 → yw' j = yw j) (h6 : ∀ t, t < 6 → ys' t = ys t) : rl_M so' fo' be' ac' yk' yw' ys' := by
  intro t ht hs
  obtain ⟨kd, vl, R, a1, a2, a3, a4, a5, a6, a7⟩ := h t ht (h0 t ht hs)
  exact ⟨kd, vl, R, a1, (h6 t ht).trans a2, rl_K_cg a3 (fun i hi => h4 _ (by omega)) (fun i hi => h5 _ (by omega)), a4, a5, a6, xa_OK_cg a7 (fun s hs => h1 _ (by omega)) (fun n hn => h2 _ (by omega)) (h3 t ht)⟩
