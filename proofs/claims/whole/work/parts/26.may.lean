/-! ===== may, fitting, missing ===== -/
theorem xa_fls_s (fo : Nat → Int32) : ∀ m S, xa_fls fo (m + 1) S = xa_fl fo (xa_fls fo m S) 31 := by
  intro m
  induction m with
  | zero => intro S; rfl
  | succ m ih => intro S; exact ih (xa_fl fo S 31)
theorem dp_N {w : Nat → Nat} {c : Nat} (h : ∀ i, i < c → w i < 6) : ∀ n a, a + n ≤ c → xa_N (dp_sl w n a) := by
  intro n
  induction n with
  | zero => intro a _ x hx; cases hx
  | succ n ih => intro a ha; exact xa_N_cons.mpr ⟨h a (by omega), ih (a + 1) (by omega)⟩
theorem dp_sl_cg {w w' : Nat → Nat} : ∀ n a, (∀ i, a ≤ i → i < a + n → w i = w' i) → dp_sl w n a = dp_sl w' n a := by
  intro n
  induction n with
  | zero => intro a _; rfl
  | succ n ih =>
    intro a h
    show w a :: dp_sl w n (a + 1) = w' a :: dp_sl w' n (a + 1)
    rw [h a (by omega) (by omega), ih (a + 1) (fun i h1 h2 => h i (by omega) (by omega))]
theorem dp_sl_sh {w w' : Nat → Nat} (s : Nat) : ∀ n a, (∀ i, a ≤ i → i < a + n → w' (i + s) = w i) → dp_sl w' n (a + s) = dp_sl w n a := by
  intro n
  induction n with
  | zero => intro a _; rfl
  | succ n ih =>
    intro a h
    show w' (a + s) :: dp_sl w' n (a + s + 1) = w a :: dp_sl w n (a + 1)
    rw [h a (by omega) (by omega), show a + s + 1 = a + 1 + s by omega, ih (a + 1) (fun i h1 h2 => h i (by omega) (by omega))]
/-- a name put in as number k -/
def my_w (w : Nat → Nat) (k n : Nat) : Nat → Nat := fun j => if j < k then w j else if j = k then n else w (j - 1)
theorem my_sl (w : Nat → Nat) (k n c : Nat) (h : k ≤ c) : dp_sl (my_w w k n) (c + 1) 0 = dp_sl w k 0 ++ n :: dp_sl w (c - k) k := by
  rw [show c + 1 = k + (1 + (c - k)) by omega, dp_sl_add, Nat.zero_add, dp_sl_add]
  congr 1
  · refine dp_sl_cg k 0 (fun i _ hi => ?_)
    unfold my_w
    rw [if_pos (by omega)]
  · have e1 : dp_sl (my_w w k n) 1 k = [n] := by
      show [my_w w k n k] = [n]
      unfold my_w
      rw [if_neg (by omega), if_pos rfl]
    rw [e1]
    show n :: dp_sl (my_w w k n) (c - k) (k + 1) = n :: _
    congr 1
    refine dp_sl_sh 1 (c - k) k (fun i h1 h2 => ?_)
    unfold my_w
    rw [if_neg (by omega), if_neg (by omega), Nat.add_sub_cancel]
noncomputable def my_s (P : Nat → Prop) : Nat → Int32
  | 0 => 0
  | m + 1 => @ite Int32 (P m) (Classical.propDecidable _) (my_s P m ||| ((1 : Int32) <<< (nI m &&& 31))) (my_s P m)
theorem my_t {P : Nat → Prop} {m : Nat} (h : P m) : my_s P (m + 1) = my_s P m ||| ((1 : Int32) <<< (nI m &&& 31)) := @if_pos _ (Classical.propDecidable _) h _ _ _
theorem my_f {P : Nat → Prop} {m : Nat} (h : ¬ P m) : my_s P (m + 1) = my_s P m := @if_neg _ (Classical.propDecidable _) h _ _ _
section
variable {drafted latestPlace positions fragments elementCount : Int32} {draftKind draftValue weights tokenAt fragmentBegin fragmentFirst fragmentLast fragmentEmpty reachedWith follow bearing accepting kindOfType leastOf greatestOf listedCount listedValue attributeUse attributeType typeOfName inUse nameOf parentOf kidCount kids hasValue valueOf hasAttribute attributeValue walked waiting : Nat → Int32} {yroot yrowLength yfirst youts ytop : Int32} {ykind ywith ysize yparent yrow yends ylack yshortest youtKind youtWith ywork yworkWith yweight yfollow yfirsts ylasts ybare ymet ynameAt ytokenAt ytodo : Nat → Int32}
/-- the complex type of an element -/
def cx_no (tn so iu : Nat → Int32) (g : Nat → Nat) (x : Int32) : Prop := ((x < 0 ∨ nI 24 ≤ x) ∨ ∃ j, j < 24 ∧ x = nI j ∧ iu j = 0) ∨ ∃ e, e < 24 ∧ x = nI e ∧ iu e ≠ 0 ∧ ∀ t, t < 6 → tn (g e) = nI t → so t ≠ nI 2
theorem cx_X0 {post : Int32 → Prop} {g : Nat → Nat} {x : Int32} (hT : rl_T kindOfType listedCount attributeUse attributeType typeOfName) (hg : ∀ x, x < 24 → nameOf x = nI (g x) ∧ g x < 6) (h : cx_no typeOfName kindOfType inUse g x) (p : post (-1)) : wpX_complexTypeOf post (drafted, latestPlace, positions, fragments, elementCount, draftKind, draftValue, weights, tokenAt, fragmentBegin, fragmentFirst, fragmentLast, fragmentEmpty, reachedWith, follow, bearing, accepting, kindOfType, leastOf, greatestOf, listedCount, listedValue, attributeUse, attributeType, typeOfName, inUse, nameOf, parentOf, kidCount, kids, hasValue, valueOf, hasAttribute, attributeValue, walked, waiting) x := by
  unfold wpX_complexTypeOf
  rcases h with h | ⟨e, he, rfl, hu, hn⟩
  · refine sx_elem0 h ?_
    exact br_t rfl p
  · refine sx_elem1 he hu ?_
    refine br_f nb_10 ?_
    obtain ⟨g1, g2⟩ := hg e he
    rw [nb_cl (by omega), g1, nb_cl (by omega)]
    refine ⟨vp_in_nI he (by omega), vp_in_nI g2 (by omega), nm_e ?_⟩
    rcases hT.2.2.2 (g e) g2 with tn | ⟨t, ht, tn⟩
    · rw [tn]
      exact sx_kind0 (Or.inl (Or.inl (by decide))) (br_t rfl p)
    · rw [tn]
      exact sx_kind0 (Or.inr ⟨t, ht, rfl, hn t ht tn⟩) (br_t rfl p)
theorem cx_Y0 {post : Int32 → Prop} {g : Nat → Nat} {x : Int32} (hT : rl_T kindOfType listedCount attributeUse attributeType typeOfName) (hg : ∀ x, x < 24 → nameOf x = nI (g x) ∧ g x < 6) (h : cx_no typeOfName kindOfType inUse g x) (p : post (-1)) : wpY_complex post (latestPlace, yroot, yrowLength, yfirst, youts, ytop, ykind, ywith, ysize, kindOfType, listedCount, attributeUse, attributeType, leastOf, greatestOf, listedValue, typeOfName, inUse, hasValue, hasAttribute, nameOf, yparent, kids, kidCount, yrow, valueOf, attributeValue, yends, ylack, yshortest, youtKind, youtWith, ywork, yworkWith, yweight, yfollow, yfirsts, ylasts, ybare, ymet, ynameAt, ytokenAt, ytodo) x := by
  unfold wpY_complex
  rcases h with h | ⟨e, he, rfl, hu, hn⟩
  · refine sy_no1 h ?_
    refine br_f nb_10 ?_
    exact br_t (by decide) p
  · refine sy_no0 he hu ?_
    refine br_t rfl ?_
    obtain ⟨g1, g2⟩ := hg e he
    unfold wpY_typeFor
    dsimp only
    rw [nb_cl (by omega), g1, nb_cl (by omega)]
    refine ⟨vp_in_nI he (by omega), vp_in_nI g2 (by omega), nm_e ?_⟩
    rcases hT.2.2.2 (g e) g2 with tn | ⟨t, ht, tn⟩
    · rw [tn]
      exact br_t (by decide) (br_t (by decide) p)
    · rw [tn, nb_cl (by omega)]
      refine br_f (nI_pos (by omega)) ⟨vp_in_nI ht (by omega), ?_⟩
      by_cases s0 : kindOfType t = 0
      · exact br_t s0 (br_t (by decide) p)
      · exact br_f s0 (br_f (nI_pos (by omega)) ⟨vp_in_nI ht (by omega), br_f (by rw [nb_cl (by omega)]; exact hn t ht tn) p⟩)
theorem cx_X1 {post : Int32 → Prop} {g : Nat → Nat} {e t : Nat} (hg : ∀ x, x < 24 → nameOf x = nI (g x) ∧ g x < 6) (he : e < 24) (hu : inUse e ≠ 0) (ht : t < 6) (tn : typeOfName (g e) = nI t) (hs : kindOfType t = nI 2) (p : post (nI t)) : wpX_complexTypeOf post (drafted, latestPlace, positions, fragments, elementCount, draftKind, draftValue, weights, tokenAt, fragmentBegin, fragmentFirst, fragmentLast, fragmentEmpty, reachedWith, follow, bearing, accepting, kindOfType, leastOf, greatestOf, listedCount, listedValue, attributeUse, attributeType, typeOfName, inUse, nameOf, parentOf, kidCount, kids, hasValue, valueOf, hasAttribute, attributeValue, walked, waiting) (nI e) := by
  unfold wpX_complexTypeOf
  refine sx_elem1 he hu ?_
  refine br_f nb_10 ?_
  obtain ⟨g1, g2⟩ := hg e he
  rw [nb_cl (by omega), g1, nb_cl (by omega), tn]
  refine ⟨vp_in_nI he (by omega), vp_in_nI g2 (by omega), nm_e ?_⟩
  exact sx_kind1 ht hs (br_f nb_10 p)
theorem cx_Y1 {post : Int32 → Prop} {g : Nat → Nat} {e t : Nat} (hg : ∀ x, x < 24 → nameOf x = nI (g x) ∧ g x < 6) (he : e < 24) (hu : inUse e ≠ 0) (ht : t < 6) (tn : typeOfName (g e) = nI t) (hs : kindOfType t = nI 2) (p : post (nI t)) : wpY_complex post (latestPlace, yroot, yrowLength, yfirst, youts, ytop, ykind, ywith, ysize, kindOfType, listedCount, attributeUse, attributeType, leastOf, greatestOf, listedValue, typeOfName, inUse, hasValue, hasAttribute, nameOf, yparent, kids, kidCount, yrow, valueOf, attributeValue, yends, ylack, yshortest, youtKind, youtWith, ywork, yworkWith, yweight, yfollow, yfirsts, ylasts, ybare, ymet, ynameAt, ytokenAt, ytodo) (nI e) := by
  unfold wpY_complex
  refine sy_no0 he hu ?_
  refine br_t rfl ?_
  obtain ⟨g1, g2⟩ := hg e he
  have et : (nI t).toNatClampNeg = t := nb_cl (by omega)
  unfold wpY_typeFor
  dsimp only
  rw [nb_cl (by omega), g1, nb_cl (by omega), tn]
  refine ⟨vp_in_nI he (by omega), vp_in_nI g2 (by omega), nm_e (br_f (nI_pos (by omega)) ⟨vp_in_nI ht (by omega), br_f ?_ (br_f (nI_pos (by omega)) ⟨vp_in_nI ht (by omega), br_t ?_ p⟩)⟩)⟩
  · rw [et, hs]; decide
  · rw [et]; exact hs
theorem cx_cs {iu so tn : Nat → Int32} {g : Nat → Nat} (x : Int32) : cx_no tn so iu g x ∨ ∃ e t, e < 24 ∧ x = nI e ∧ iu e ≠ 0 ∧ t < 6 ∧ tn (g e) = nI t ∧ so t = nI 2 := by
  rcases el_cs iu x with h | ⟨e, he, rfl, hu⟩
  · exact Or.inl (Or.inl h)
  · by_cases q : ∃ t, t < 6 ∧ tn (g e) = nI t ∧ so t = nI 2
    · obtain ⟨t, ht, h1, h2⟩ := q
      exact Or.inr ⟨e, t, he, rfl, hu, ht, h1, h2⟩
    · exact Or.inl (Or.inr ⟨e, he, rfl, hu, fun t ht h1 h2 => q ⟨t, ht, h1, h2⟩⟩)
end
section
variable {drafted latestPlace positions fragments elementCount : Int32} {draftKind draftValue weights tokenAt fragmentBegin fragmentFirst fragmentLast fragmentEmpty reachedWith follow bearing accepting kindOfType leastOf greatestOf listedCount listedValue attributeUse attributeType typeOfName inUse nameOf parentOf kidCount kids hasValue valueOf hasAttribute attributeValue walked waiting : Nat → Int32} {yplace yroot yrowLength yfirst youts ytop : Int32} {ykind ywith ysize ysort ymany yuse ytypeOf yleast ygreatest ylisted ytypeOfName yused yvalued ygiven yname yparent ychildren ycount yrow yvalue yattributes yends ylack yshortest youtKind youtWith ywork yworkWith yweight yfollow yfirsts ylasts ybare ymet ynameAt ytokenAt ytodo : Nat → Int32}
theorem sx_may45 {post : Int32 → Prop} {e k t c : Nat} {g : Nat → Nat} {ch : Nat → Nat → Nat} {L : List Nat → Prop} (he : e < 24) (ht : t < 6) (hkc : k ≤ c) (hc : c ≤ 23) (hct : kidCount e = nI c) (hk : ∀ i, i < c → kids (24 * e + i) = nI (ch e i) ∧ ch e i < 24) (hg : ∀ x, x < 24 → nameOf x = nI (g x) ∧ g x < 6) (hA : xa_OK (fun s => follow (31 * t + s)) (fun c => bearing (6 * t + c)) (accepting t) L) (h : post (my_s (fun n => L (dp_sl (kn_w g ch e) k 0 ++ n :: dp_sl (kn_w g ch e) (c - k) k)) 6)) : ∀ m n, n + m = 6 → wX_may_45 post (nI e) (nI k) (nI t) (xa_run (fun s => follow (31 * t + s)) (fun c => bearing (6 * t + c)) 1073741824 (dp_sl (kn_w g ch e) k 0)) drafted latestPlace positions fragments elementCount draftKind draftValue weights tokenAt fragmentBegin fragmentFirst fragmentLast fragmentEmpty reachedWith follow bearing accepting kindOfType leastOf greatestOf listedCount listedValue attributeUse attributeType typeOfName inUse nameOf parentOf kidCount kids hasValue valueOf hasAttribute attributeValue walked waiting (m + 1) (my_s (fun n => L (dp_sl (kn_w g ch e) k 0 ++ n :: dp_sl (kn_w g ch e) (c - k) k)) n) (nI n) := by
  have hrn : ∀ i, i < c → kn_w g ch e i < 6 := fun i hi => (hg _ (hk i hi).2).2
  have et : (nI t).toNatClampNeg = t := nb_cl (by omega)
  intro m
  induction m with
  | zero =>
    intro n hn
    obtain rfl : n = 6 := by omega
    exact br_t (by decide) h
  | succ m ih =>
    intro n hn
    have ih' := ih (n + 1) (by omega)
    refine br_f (nI_ge (b := 6) (by omega) (by omega)) ?_
    refine sx_step (by omega) (by omega) ⟨vp_in_nI he (by omega), ?_⟩
    rw [nb_cl (n := e) (by omega), hct]
    refine sx_afterKids (g := g) (ch := ch) (by omega) he (by omega) hkc hk hg ⟨vp_in_nI (by omega) (by omega), ?_⟩
    rw [et]
    have hN : xa_N (dp_sl (kn_w g ch e) k 0 ++ n :: dp_sl (kn_w g ch e) (c - k) k) := xa_N_app.mpr ⟨dp_N hrn k 0 (by omega), xa_N_cons.mpr ⟨by omega, dp_N hrn (c - k) k (by omega)⟩⟩
    have acc := xa_acc hA hN
    rw [xa_run_app] at acc
    by_cases hL : L (dp_sl (kn_w g ch e) k 0 ++ n :: dp_sl (kn_w g ch e) (c - k) k)
    · rw [my_t hL] at ih'
      exact br_f (acc.mpr hL) (nm_e (nm_r (nI_1 n) ih'))
    · rw [my_f hL] at ih'
      exact br_t (Classical.byContradiction (fun q => hL (acc.mp q))) (nm_r (nI_1 n) ih')
theorem sy_may50 {post : Int32 → SY → Prop} {J : Int32 → Int32 → Int32 → Int32 → Int32 → Int32 → Int32 → Int32 → (Nat → Int32) → (Nat → Int32) → (Nat → Int32) → (Nat → Int32) → (Nat → Int32) → (Nat → Int32) → (Nat → Int32) → (Nat → Int32) → (Nat → Int32) → (Nat → Int32) → (Nat → Int32) → (Nat → Int32) → (Nat → Int32) → (Nat → Int32) → (Nat → Int32) → (Nat → Int32) → (Nat → Int32) → (Nat → Int32) → (Nat → Int32) → (Nat → Int32) → (Nat → Int32) → (Nat → Int32) → (Nat → Int32) → (Nat → Int32) → (Nat → Int32) → (Nat → Int32) → (Nat → Int32) → (Nat → Int32) → (Nat → Int32) → (Nat → Int32) → (Nat → Int32) → (Nat → Int32) → (Nat → Int32) → (Nat → Int32) → (Nat → Int32) → (Nat → Int32) → (Nat → Int32) → Prop} {k t c n : Nat} {x1 S : Int32} {w kd vl : Nat → Nat} {R : ex_T} (ht : t < 6) (hkc : k ≤ c) (hc : c ≤ 23) (hn : n < 6) (hw6 : ∀ i, i < c → w i < 6) (hs : ysize t = nI (ex_n R)) (h16 : ex_n R ≤ 16) (hK : rl_K ykind ywith (16 * t) (ex_n R) kd vl) (hS : ex_S kd vl R 0) (hW : ex_W R) (hw : ex_w R ≤ 30)
    (h1 : ex_L vl R (dp_sl w k 0 ++ n :: dp_sl w (c - k) k) → ∀ (yrowLength yfirst : Int32) (yrow yends ylack yshortest : Nat → Int32), J (S ||| ((1 : Int32) <<< (nI n &&& 31))) (nI (n + 1)) yplace yroot yrowLength yfirst youts ytop ykind ywith ysize ysort ymany yuse ytypeOf yleast ygreatest ylisted ytypeOfName yused yvalued ygiven yname yparent ychildren ycount yrow yvalue yattributes yends ylack yshortest youtKind youtWith ywork yworkWith yweight yfollow yfirsts ylasts ybare ymet ynameAt ytokenAt ytodo) (h0 : ¬ ex_L vl R (dp_sl w k 0 ++ n :: dp_sl w (c - k) k) → ∀ (yrowLength yfirst : Int32) (yrow yends ylack yshortest : Nat → Int32), J S (nI (n + 1)) yplace yroot yrowLength yfirst youts ytop ykind ywith ysize ysort ymany yuse ytypeOf yleast ygreatest ylisted ytypeOfName yused yvalued ygiven yname yparent ychildren ycount yrow yvalue yattributes yends ylack yshortest youtKind youtWith ywork yworkWith yweight yfollow yfirsts ylasts ybare ymet ynameAt ytokenAt ytodo) : ∀ (m i : Nat) (row : Nat → Int32), i = k + m → i ≤ c → (∀ j, j < i → row j = nI (w j)) → (∀ j, i < j → j ≤ c → row j = nI (w (j - 1))) → wY_may_50 post J x1 (nI k) (nI t) S (nI n) yplace yroot (nI c) yfirst youts ytop (m + 1) (nI i) ykind ywith ysize ysort ymany yuse ytypeOf yleast ygreatest ylisted ytypeOfName yused yvalued ygiven yname yparent ychildren ycount row yvalue yattributes yends ylack yshortest youtKind youtWith ywork yworkWith yweight yfollow yfirsts ylasts ybare ymet ynameAt ytokenAt ytodo := by
  intro m
  induction m with
  | zero =>
    intro i row hi hic r1 r2
    obtain rfl : i = k := by omega
    refine br_t (nI_le (Nat.le_refl _) (by omega)) ⟨vp_in_nI (by omega) (by omega), nm_r (e' := upd row i (nI n)) (by rw [nb_cl (by omega), nb_v8 (by omega)]) (nm_r (nI_1 c) ?_)⟩
    refine sy_isWord (w := my_w w i n) ht (by omega) (fun j hj => ?_) hs h16 hK hS hW hw (fun hL f sh en lk => ?_) (fun hL f sh en lk => ?_)
    · unfold my_w
      by_cases q1 : j < i
      · rw [pk_un (by omega), if_pos q1]; exact ⟨r1 j q1, hw6 j (by omega)⟩
      · rw [if_neg q1]
        by_cases q2 : j = i
        · rw [q2, pk_us, if_pos rfl]; exact ⟨rfl, hn⟩
        · rw [pk_un q2, if_neg q2]; exact ⟨r2 j (by omega) (by omega), hw6 _ (by omega)⟩
    · rw [my_sl w i n c hic] at hL
      exact br_f nb_10 (nm_e (nm_r (nI_1 n) (h1 hL _ _ _ _ _ _)))
    · rw [my_sl w i n c hic] at hL
      exact br_t rfl (nm_r (nI_1 n) (h0 hL _ _ _ _ _ _))
  | succ m ih =>
    intro i row hi hic r1 r2
    obtain ⟨j, rfl⟩ : ∃ j, i = j + 1 := ⟨k + m, by omega⟩
    refine br_f (nI_ge (by omega) (by omega)) ?_
    rw [nb_s1 (by omega), show j + 1 - 1 = j by omega]
    refine ⟨vp_in_nI (by omega) (by omega), vp_in_nI (by omega) (by omega), nm_r (e' := upd row (j + 1) (nI (w j))) (by rw [nb_cl (by omega), nb_cl (by omega), r1 j (by omega), nb_vb (by have := hw6 j (by omega); omega)]) (nm_r (nb_a1 j) (ih j _ (by omega) (by omega) (fun x hx => ?_) (fun x hx hxc => ?_)))⟩
    · rw [pk_un (by omega)]; exact r1 x (by omega)
    · by_cases q : x = j + 1
      · rw [q, pk_us, Nat.add_sub_cancel]
      · rw [pk_un q]; exact r2 x (by omega) hxc
theorem sx_fit19 {post : Int32 → Prop} {e t c : Nat} {g : Nat → Nat} {ch : Nat → Nat → Nat} {L : List Nat → Prop} (he : e < 24) (ht : t < 6) (hc : c ≤ 23) (hct : kidCount e = nI c) (hk : ∀ i, i < c → kids (24 * e + i) = nI (ch e i) ∧ ch e i < 24) (hg : ∀ x, x < 24 → nameOf x = nI (g x) ∧ g x < 6) (hA : xa_OK (fun s => follow (31 * t + s)) (fun c => bearing (6 * t + c)) (accepting t) L) (hne : ∃ u, L u) (h : ∀ r, r ≤ c → (∃ v, L (dp_sl (kn_w g ch e) r 0 ++ v)) → (r < c → ¬ ∃ v, L (dp_sl (kn_w g ch e) (r + 1) 0 ++ v)) → post (nI r)) : ∀ m i, i + m = c → (∃ v, L (dp_sl (kn_w g ch e) i 0 ++ v)) → wX_fitting_19 post (nI e) (nI t) drafted latestPlace positions fragments elementCount draftKind draftValue weights tokenAt fragmentBegin fragmentFirst fragmentLast fragmentEmpty reachedWith follow bearing accepting kindOfType leastOf greatestOf listedCount listedValue attributeUse attributeType typeOfName inUse nameOf parentOf kidCount kids hasValue valueOf hasAttribute attributeValue walked waiting (m + 1) (xa_run (fun s => follow (31 * t + s)) (fun c => bearing (6 * t + c)) 1073741824 (dp_sl (kn_w g ch e) i 0)) (nI i) := by
  have hrn : ∀ i, i < c → kn_w g ch e i < 6 := fun i hi => (hg _ (hk i hi).2).2
  have ve : vp_in (nI e) 24 := vp_in_nI he (by omega)
  have ec : kidCount (nI e).toNatClampNeg = nI c := by rw [nb_cl (by omega), hct]
  intro m
  induction m with
  | zero =>
    intro i hi hv
    obtain rfl : i = c := by omega
    refine ⟨ve, br_t (by rw [ec]; exact nI_le (Nat.le_refl _) (by omega)) ⟨ve, ?_⟩⟩
    rw [ec]
    exact h i (Nat.le_refl _) hv (fun q => by omega)
  | succ m ih =>
    intro i hi hv
    obtain ⟨k1, k2⟩ := hk i (by omega)
    obtain ⟨g1, g2⟩ := hg _ k2
    refine ⟨ve, br_f (by rw [ec]; exact nI_ge (by omega) (by omega)) ?_⟩
    rw [nb_m24, nb_cl (n := 24 * e + i) (by omega), k1, nb_cl (n := ch e i) (by omega), g1]
    refine ⟨vp_in_nI (by omega) (by omega), vp_in_nI k2 (by omega), sx_step (by omega) g2 ?_⟩
    have e1 : xa_run (fun s => follow (31 * t + s)) (fun c => bearing (6 * t + c)) 1073741824 (dp_sl (kn_w g ch e) (i + 1) 0) = xa_step (fun s => follow (31 * t + s)) (fun c => bearing (6 * t + c)) (xa_run (fun s => follow (31 * t + s)) (fun c => bearing (6 * t + c)) 1073741824 (dp_sl (kn_w g ch e) i 0)) (g (ch e i)) := by
      rw [dp_sl_add, xa_run_app, Nat.zero_add]
      rfl
    have pre := xa_pre hA (dp_N hrn (i + 1) 0 (by omega)) hne
    have ih' := ih (i + 1) (by omega)
    rw [e1] at pre ih'
    by_cases q : ∃ v, L (dp_sl (kn_w g ch e) (i + 1) 0 ++ v)
    · exact br_f (pre.mpr q) (nm_r (nI_1 i) (ih' q))
    · exact br_t (Classical.byContradiction (fun q2 => q (pre.mp q2))) (h i (by omega) hv (fun _ => q))
theorem sy_fit28 {post : Int32 → SY → Prop} {t c : Nat} {w kd vl : Nat → Nat} {R : ex_T} (ht : t < 6) (hc : c ≤ 23) (hrow : ∀ i, i < c → yrow i = nI (w i) ∧ w i < 6) (hs : ysize t = nI (ex_n R)) (h16 : ex_n R ≤ 16) (hK : rl_K ykind ywith (16 * t) (ex_n R) kd vl) (hS : ex_S kd vl R 0) (hW : ex_W R) (hw : ex_w R ≤ 30)
    (h : ∀ (r : Nat) (yfirst : Int32) (yends ylack yshortest : Nat → Int32), r ≤ c → (∃ v, ex_L vl R (dp_sl w r 0 ++ v)) → (∀ r', r < r' → r' ≤ c → ¬ ∃ v, ex_L vl R (dp_sl w r' 0 ++ v)) → post (nI r) (yplace, yroot, yrowLength, yfirst, youts, ytop, ykind, ywith, ysize, ysort, ymany, yuse, ytypeOf, yleast, ygreatest, ylisted, ytypeOfName, yused, yvalued, ygiven, yname, yparent, ychildren, ycount, yrow, yvalue, yattributes, yends, ylack, yshortest, youtKind, youtWith, ywork, yworkWith, yweight, yfollow, yfirsts, ylasts, ybare, ymet, ynameAt, ytokenAt, ytodo)) : ∀ (n x : Nat) (yfirst : Int32) (yends ylack yshortest : Nat → Int32), n ≤ c → (∀ r', n < r' → r' ≤ c → ¬ ∃ v, ex_L vl R (dp_sl w r' 0 ++ v)) → ylack 0 = nI x → dp_M 30 (dp_K (ex_L vl R) w n 0) x → wY_fitting_28 post (nI t) (n + 1) (nI n) yplace yroot yrowLength yfirst youts ytop ykind ywith ysize ysort ymany yuse ytypeOf yleast ygreatest ylisted ytypeOfName yused yvalued ygiven yname yparent ychildren ycount yrow yvalue yattributes yends ylack yshortest youtKind youtWith ywork yworkWith yweight yfollow yfirsts ylasts ybare ymet ynameAt ytokenAt ytodo := by
  intro n
  induction n with
  | zero =>
    intro x yfirst yends ylack yshortest _ hr hx hm
    refine br_t (by decide) (h 0 _ _ _ _ (by omega) ?_ hr)
    obtain ⟨u, hu⟩ := ex_ne vl R hW
    exact ⟨u, hu⟩
  | succ n ih =>
    intro x yfirst yends ylack yshortest hnc hr hx hm
    refine br_f (by rw [nb_le0 (by omega)]; omega) ?_
    rw [hx]
    rcases hm with ⟨⟨v, lv, hv⟩, hx30, _⟩ | ⟨hx0, hn⟩
    · exact br_t (nI_lt (b := 100000) (by omega) (by omega)) (h (n + 1) _ _ _ _ hnc ⟨v, hv⟩ hr)
    · refine br_f (by rw [hx0]; decide) (nm_r (nb_a1 n) ?_)
      refine sy_examine (w := w) ht (by omega) (fun i hi => hrow i (by omega)) hs h16 hK hS hW hw (fun f sh en lk x' _ hx' hm' => ?_)
      refine ih x' f en lk sh (by omega) (fun r' h1 h2 => ?_) hx' hm'
      by_cases q : r' = n + 1
      · rw [q]
        rintro ⟨v, hv⟩
        exact hn v.length ⟨v, rfl, hv⟩
      · exact hr r' (by omega) h2
theorem sx_mis32 {post : Int32 → Prop} {t : Nat} {u : List Nat} {L : List Nat → Prop} (ht : t < 6) (hN : xa_N u) (hA : xa_OK (fun s => follow (31 * t + s)) (fun c => bearing (6 * t + c)) (accepting t) L) (h1 : ∀ m, m < 31 → (∃ v, v.length = m ∧ L (u ++ v)) → (∀ m', m' < m → ¬ ∃ v, v.length = m' ∧ L (u ++ v)) → post (nI m)) (h0 : (∀ m, m < 31 → ¬ ∃ v, v.length = m ∧ L (u ++ v)) → post (-1)) : ∀ m i, i + m = 31 → (∀ m', m' < i → ¬ ∃ v, v.length = m' ∧ L (u ++ v)) → wX_missing_32 post (nI t) drafted latestPlace positions fragments elementCount draftKind draftValue weights tokenAt fragmentBegin fragmentFirst fragmentLast fragmentEmpty reachedWith follow bearing accepting kindOfType leastOf greatestOf listedCount listedValue attributeUse attributeType typeOfName inUse nameOf parentOf kidCount kids hasValue valueOf hasAttribute attributeValue walked waiting (m + 1) (xa_fls (fun s => follow (31 * t + s)) i (xa_run (fun s => follow (31 * t + s)) (fun c => bearing (6 * t + c)) 1073741824 u)) (nI i) := by
  have et : (nI t).toNatClampNeg = t := nb_cl (by omega)
  intro m
  induction m with
  | zero =>
    intro i hi hn
    obtain rfl : i = 31 := by omega
    exact br_t (by decide) (h0 hn)
  | succ m ih =>
    intro i hi hn
    have la := xa_lack hA hN i
    refine br_f (nI_ge (b := 31) (by omega) (by omega)) ⟨vp_in_nI (by omega) (by omega), ?_⟩
    rw [et]
    by_cases q : ∃ v, v.length = i ∧ L (u ++ v)
    · exact br_f (la.mpr q) (h1 i (by omega) q hn)
    · refine br_t (Classical.byContradiction (fun q2 => q (la.mp q2))) ?_
      have ih' := ih (i + 1) (by omega) (fun m' hm' => by
        by_cases q3 : m' = i
        · rw [q3]; exact q
        · exact hn m' (by omega))
      rw [xa_fls_s] at ih'
      exact sx_followers (by omega) (nm_r (nI_1 i) ih')
end
