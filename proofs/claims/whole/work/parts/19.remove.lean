/-! ===== the walk, remove ===== -/
theorem nb_dec (x : Int32) : x - 1 = x + (-1) := by rw [Int32.sub_eq_add_neg]
theorem nb_d0 : nI 0 + (-1) < 0 := by decide
def wt_R (wa : Nat → Int32) : List Nat → Prop
  | [] => True
  | x :: l => wa l.length = nI x ∧ wt_R wa l
theorem wt_upd {wa : Nat → Int32} {j : Nat} {v : Int32} : ∀ l : List Nat, l.length ≤ j → wt_R wa l → wt_R (upd wa j v) l := by
  intro l
  induction l with
  | nil => intro _ _; exact trivial
  | cons x l ih =>
    intro h hw
    rw [List.length_cons] at h
    exact ⟨by rw [pk_un (by omega)]; exact hw.1, ih (by omega) hw.2⟩
def wk_R (wk : Nat → Int32) (ws : List Nat) : Prop := ∀ (i x : Nat), ws[i]? = some x → wk i = nI x
theorem wk_snoc {wk : Nat → Int32} {ws : List Nat} {e : Nat} (h : wk_R wk ws) : wk_R (upd wk ws.length (nI e)) (ws ++ [e]) := by
  intro i x hx
  rw [List.getElem?_append] at hx
  by_cases q : i < ws.length
  · rw [if_pos q] at hx
    rw [pk_un (by omega)]
    exact h i x hx
  · rw [if_neg q] at hx
    by_cases q2 : i = ws.length
    · rw [q2, Nat.sub_self] at hx
      have hx' : some e = some x := hx
      rw [q2, pk_us, Option.some.inj hx']
    · rw [List.getElem?_eq_none (by rw [List.length_singleton]; omega)] at hx
      cases hx
section
variable {drafted latestPlace positions fragments elementCount : Int32} {draftKind draftValue weights tokenAt fragmentBegin fragmentFirst fragmentLast fragmentEmpty reachedWith follow bearing accepting kindOfType leastOf greatestOf listedCount listedValue attributeUse attributeType typeOfName inUse nameOf parentOf kidCount kids hasValue valueOf hasAttribute attributeValue walked waiting : Nat → Int32} {yplace yroot yrowLength yfirst youts ytop : Int32} {ykind ywith ysize ysort ymany yuse ytypeOf yleast ygreatest ylisted ytypeOfName yused yvalued ygiven yname yparent ychildren ycount yrow yvalue yattributes yends ylack yshortest youtKind youtWith ywork yworkWith yweight yfollow yfirsts ylasts ybare ymet ynameAt ytokenAt ytodo : Nat → Int32}
theorem sx_walk54 {post : Int32 → SX → Prop} {J : Int32 → Int32 → (Nat → Int32) → (Nat → Int32) → (Nat → Int32) → (Nat → Int32) → (Nat → Int32) → (Nat → Int32) → (Nat → Int32) → (Nat → Int32) → (Nat → Int32) → (Nat → Int32) → (Nat → Int32) → (Nat → Int32) → (Nat → Int32) → (Nat → Int32) → (Nat → Int32) → (Nat → Int32) → (Nat → Int32) → (Nat → Int32) → (Nat → Int32) → (Nat → Int32) → (Nat → Int32) → (Nat → Int32) → (Nat → Int32) → (Nat → Int32) → (Nat → Int32) → (Nat → Int32) → (Nat → Int32) → (Nat → Int32) → (Nat → Int32) → (Nat → Int32) → (Nat → Int32) → Prop} {e c : Nat} {s : Int32} {ch : Nat → Nat → Nat} {st : List Nat} (he : e < 24) (hc : c + st.length ≤ 24) (hc23 : c ≤ 23) (hk : ∀ i, i < c → kids (24 * e + i) = nI (ch e i)) (h : ∀ wa, wt_R wa (tr_kf ch e c 0 ++ st) → J s (nI (c + st.length)) draftKind draftValue weights tokenAt fragmentBegin fragmentFirst fragmentLast fragmentEmpty reachedWith follow bearing accepting kindOfType leastOf greatestOf listedCount listedValue attributeUse attributeType typeOfName inUse nameOf parentOf kidCount kids hasValue valueOf hasAttribute attributeValue walked wa) : ∀ (m : Nat) (wa : Nat → Int32), m ≤ c → wt_R wa (tr_kf ch e (c - m) m ++ st) → wX_walk_54 post J s (nI e) drafted latestPlace positions fragments elementCount (m + 1) (nI (c - m + st.length)) (nI m + (-1)) draftKind draftValue weights tokenAt fragmentBegin fragmentFirst fragmentLast fragmentEmpty reachedWith follow bearing accepting kindOfType leastOf greatestOf listedCount listedValue attributeUse attributeType typeOfName inUse nameOf parentOf kidCount kids hasValue valueOf hasAttribute attributeValue walked wa := by
  intro m
  induction m with
  | zero =>
    intro wa _ hw
    exact br_t nb_d0 (h wa hw)
  | succ m ih =>
    intro wa hm hw
    rw [nb_a1]
    refine br_f (nI_pos (by omega)) ?_
    rw [nb_m24]
    refine ⟨vp_in_nI (by omega) (by omega), vp_in_nI (by omega) (by omega), nm_r (e' := upd wa (c - (m + 1) + st.length) (nI (ch e m))) (by rw [nb_cl (by omega), nb_cl (by omega), hk m (by omega)]) (nm_r (e' := nI (c - m + st.length)) (by rw [nI_1]; congr 1; omega) (nm_e (ih _ (by omega) ?_)))⟩
    have e1 : c - m = (c - (m + 1)) + 1 := by omega
    rw [e1]
    show wt_R _ (ch e m :: (tr_kf ch e (c - (m + 1)) (m + 1) ++ st))
    have hl : (tr_kf ch e (c - (m + 1)) (m + 1) ++ st).length = c - (m + 1) + st.length := by rw [List.length_append, tr_kf_len]
    exact ⟨by rw [hl, pk_us], wt_upd _ (by rw [hl]; exact Nat.le_refl _) hw⟩
theorem sx_walk11 {post : Int32 → SX → Prop} {us : Nat → Prop} {po : Nat → Option Nat} {c : Nat → Nat} {ch : Nat → Nat → Nat} {rk : Nat → Nat} {top : Nat} {Inv : List Nat → List Nat → Prop} (hF : tr_F us po c ch rk) (hct : ∀ x, us x → kidCount x = nI (c x)) (hk : ∀ x i, us x → i < c x → kids (24 * x + i) = nI (ch x i)) (hInv : ∀ ws e st, us e → Inv ws (e :: st) → Inv (ws ++ [e]) (tr_kf ch e (c e) 0 ++ st))
    (h : ∀ (ws : List Nat) (wk wa : Nat → Int32), tr_V us po c ch rk top ws [] → wk_R wk ws → Inv ws [] → post (nI ws.length) (drafted, latestPlace, positions, fragments, elementCount, draftKind, draftValue, weights, tokenAt, fragmentBegin, fragmentFirst, fragmentLast, fragmentEmpty, reachedWith, follow, bearing, accepting, kindOfType, leastOf, greatestOf, listedCount, listedValue, attributeUse, attributeType, typeOfName, inUse, nameOf, parentOf, kidCount, kids, hasValue, valueOf, hasAttribute, attributeValue, wk, wa)) : ∀ (m : Nat) (ws st : List Nat) (wk wa : Nat → Int32), ws.length + m = 24 → tr_V us po c ch rk top ws st → wk_R wk ws → wt_R wa st → Inv ws st → wX_walk_11 post drafted latestPlace positions fragments elementCount (m + 1) (nI ws.length) (nI st.length) draftKind draftValue weights tokenAt fragmentBegin fragmentFirst fragmentLast fragmentEmpty reachedWith follow bearing accepting kindOfType leastOf greatestOf listedCount listedValue attributeUse attributeType typeOfName inUse nameOf parentOf kidCount kids hasValue valueOf hasAttribute attributeValue wk wa := by
  intro m
  induction m with
  | zero =>
    intro ws st wk wa hm hV hwk hwa hI
    have hl := tr_V_len hF hV
    have hs : st = [] := List.length_eq_zero_iff.mp (by omega)
    subst hs
    exact br_t (by decide) (h ws wk wa hV hwk hI)
  | succ m ih =>
    intro ws st wk wa hm hV hwk hwa hI
    cases st with
    | nil => exact br_t (by decide) (h ws wk wa hV hwk hI)
    | cons e st =>
      have hl := tr_V_len hF hV
      rw [List.length_cons] at hl ⊢
      have ue : us e := (hV.2.1 e (List.mem_append.mpr (Or.inr List.mem_cons_self))).1
      have he := hF.1 e ue
      have hV' := tr_V_s hF hV
      have hl' := tr_V_len hF hV'
      rw [List.length_append, List.length_append, List.length_singleton, tr_kf_len] at hl'
      refine br_f (by rw [nb_le0 (by omega)]; omega) (br_f (nI_ge (b := 24) (by omega) (by omega)) (nm_r (nb_a1 st.length) ?_))
      refine ⟨vp_in_nI (by omega) (by omega), nm_r (e' := nI e) (by rw [nb_cl (by omega)]; exact hwa.1) ⟨vp_in_nI (by omega) (by omega), nm_r (e' := upd wk ws.length (nI e)) (by rw [nb_cl (by omega)]) (nm_r (nI_1 ws.length) ⟨vp_in_nI he (by omega), nm_r (e' := nI (c e) + (-1)) (by rw [nb_cl (by omega), hct e ue, nb_dec]) ⟨c e + 1, ?_⟩⟩)⟩⟩
      have := sx_walk54 (post := post) (J := wX_walk_11 post drafted latestPlace positions fragments elementCount (m + 1)) (e := e) (c := c e) (s := nI (ws.length + 1)) (ch := ch) (st := st) (walked := upd wk ws.length (nI e)) (elementCount := elementCount) (drafted := drafted) (latestPlace := latestPlace) (positions := positions) (fragments := fragments) he (by omega) (tr_F_c hF ue) (fun i hi => hk e i ue hi) (fun wa' hwa' => by
        have := ih (ws ++ [e]) (tr_kf ch e (c e) 0 ++ st) (upd wk ws.length (nI e)) wa' (by rw [List.length_append, List.length_singleton]; omega) hV' (wk_snoc hwk) hwa' (hInv ws e st ue hI)
        rw [List.length_append, List.length_append, List.length_singleton, tr_kf_len] at this
        exact this) (c e) wa (Nat.le_refl _) (by rw [Nat.sub_self]; exact hwa.2)
      rw [Nat.sub_self, Nat.zero_add] at this
      exact this
theorem sx_walk {post : Int32 → SX → Prop} {us : Nat → Prop} {po : Nat → Option Nat} {c : Nat → Nat} {ch : Nat → Nat → Nat} {rk : Nat → Nat} {top : Nat} {Inv : List Nat → List Nat → Prop} (hF : tr_F us po c ch rk) (ht : us top) (hct : ∀ x, us x → kidCount x = nI (c x)) (hk : ∀ x i, us x → i < c x → kids (24 * x + i) = nI (ch x i)) (hInv : ∀ ws e st, us e → Inv ws (e :: st) → Inv (ws ++ [e]) (tr_kf ch e (c e) 0 ++ st)) (h0 : Inv [] [top])
    (h : ∀ (ws : List Nat) (wk wa : Nat → Int32), tr_V us po c ch rk top ws [] → wk_R wk ws → Inv ws [] → post (nI ws.length) (drafted, latestPlace, positions, fragments, elementCount, draftKind, draftValue, weights, tokenAt, fragmentBegin, fragmentFirst, fragmentLast, fragmentEmpty, reachedWith, follow, bearing, accepting, kindOfType, leastOf, greatestOf, listedCount, listedValue, attributeUse, attributeType, typeOfName, inUse, nameOf, parentOf, kidCount, kids, hasValue, valueOf, hasAttribute, attributeValue, wk, wa)) : wpX_walk post (drafted, latestPlace, positions, fragments, elementCount, draftKind, draftValue, weights, tokenAt, fragmentBegin, fragmentFirst, fragmentLast, fragmentEmpty, reachedWith, follow, bearing, accepting, kindOfType, leastOf, greatestOf, listedCount, listedValue, attributeUse, attributeType, typeOfName, inUse, nameOf, parentOf, kidCount, kids, hasValue, valueOf, hasAttribute, attributeValue, walked, waiting) (nI top) :=
  nm_e ⟨25, sx_walk11 hF hct hk hInv h 24 [] [top] walked (upd waiting 0 (nI top)) (by rfl) (tr_V_0 ht) (fun i x hx => by cases hx) ⟨pk_us, trivial⟩ h0⟩
end
/-- those of a list go out of use -/
def rm_l (iu : Nat → Int32) (l : List Nat) : Nat → Int32 := fun x => if x ∈ l then 0 else iu x
theorem rm_l_s {iu : Nat → Int32} {l : List Nat} {x : Nat} : upd (rm_l iu l) x 0 = rm_l iu (l ++ [x]) := by
  funext j
  unfold upd rm_l
  by_cases e : j = x
  · rw [if_pos e, if_pos (by rw [e]; exact List.mem_append.mpr (Or.inr (List.mem_singleton.mpr rfl)))]
  · rw [if_neg e]
    by_cases h : j ∈ l
    · rw [if_pos h, if_pos (List.mem_append.mpr (Or.inl h))]
    · rw [if_neg h, if_neg (fun h' => by
        rcases List.mem_append.mp h' with h' | h'
        · exact h h'
        · exact e (List.mem_singleton.mp h'))]
theorem rm_l_0 (iu : Nat → Int32) : rm_l iu [] = iu := by
  funext j
  unfold rm_l
  rw [if_neg (fun h => by cases h)]
def rm_b (iu : Nat → Int32) (g : Int32) (i : Nat) : Nat → Int32 := fun x => if x < i ∧ bt g x = true then 0 else iu x
theorem rm_b_0 (iu : Nat → Int32) (g : Int32) : rm_b iu g 0 = iu := by
  funext j
  unfold rm_b
  rw [if_neg (by omega)]
theorem rm_b_t {iu : Nat → Int32} {g : Int32} {i : Nat} (h : bt g i = true) : upd (rm_b iu g i) i 0 = rm_b iu g (i + 1) := by
  funext j
  unfold upd rm_b
  by_cases e : j = i
  · rw [if_pos e, if_pos ⟨by omega, by rw [e]; exact h⟩]
  · rw [if_neg e]
    by_cases q : j < i ∧ bt g j = true
    · rw [if_pos q, if_pos ⟨by omega, q.2⟩]
    · rw [if_neg q, if_neg (fun q' => q ⟨by omega, q'.2⟩)]
theorem rm_b_f {iu : Nat → Int32} {g : Int32} {i : Nat} (h : bt g i = false) : rm_b iu g i = rm_b iu g (i + 1) := by
  funext j
  unfold rm_b
  by_cases q : j < i ∧ bt g j = true
  · rw [if_pos q, if_pos ⟨by omega, q.2⟩]
  · rw [if_neg q, if_neg (fun q' => by
      by_cases e : j = i
      · rw [e, h] at q'; exact absurd q'.2 Bool.false_ne_true
      · exact q ⟨by omega, q'.2⟩)]
theorem cb_mem : ∀ (m : Nat) (l : List Nat), l.Nodup → (∀ x, x ∈ l → x < m) → cb_n (fun x => decide (x ∈ l)) m = l.length := by
  intro m
  induction m with
  | zero =>
    intro l _ h
    cases l with
    | nil => rfl
    | cons a l => exact absurd (h a List.mem_cons_self) (by omega)
  | succ m ih =>
    intro l hl h
    unfold cb_n
    by_cases hm : m ∈ l
    · have h1 := ih (l.erase m) (List.Nodup.erase m hl) (fun x hx => by
        have hx' := (List.Nodup.mem_erase_iff hl).mp hx
        have := h x hx'.2
        have := hx'.1
        omega)
      rw [List.length_erase_of_mem hm] at h1
      have h2 : cb_n (fun x => decide (x ∈ l)) m = cb_n (fun x => decide (x ∈ l.erase m)) m := cb_cg m (fun i hi => by
        apply decide_eq_decide.mpr
        rw [List.Nodup.mem_erase_iff hl]
        exact ⟨fun h => ⟨by omega, h⟩, fun h => h.2⟩)
      have hp : 0 < l.length := List.length_pos_of_mem hm
      rw [if_pos (decide_eq_true hm), h2, h1]
      omega
    · have h1 := ih l hl (fun x hx => by
        have := h x hx
        have : x ≠ m := fun e => hm (e ▸ hx)
        omega)
      rw [if_neg (by rw [decide_eq_true_iff]; exact hm), h1]
      rfl
theorem rm_cn {iu : Nat → Int32} {l : List Nat} (h : ∀ x, x ∈ l → iu x ≠ 0) : ∀ m, tr_cn (rm_l iu l) m + cb_n (fun x => decide (x ∈ l)) m = tr_cn iu m := by
  intro m
  induction m with
  | zero => rfl
  | succ m ih =>
    unfold tr_cn cb_n
    by_cases hm : m ∈ l
    · rw [if_pos (show rm_l iu l m = 0 from if_pos hm), if_pos (decide_eq_true hm), if_neg (h m hm)]
      omega
    · have hd : (if decide (m ∈ l) = true then 1 else 0) = 0 := if_neg (by rw [decide_eq_true_iff]; exact hm)
      rw [show rm_l iu l m = iu m from if_neg hm, hd]
      omega
theorem tr_all {us : Nat → Prop} {po : Nat → Option Nat} {c : Nat → Nat} {ch : Nat → Nat → Nat} {rk : Nat → Nat} (hI : tr_I us po c ch rk) : ∀ r x, rk x ≤ r → us x → ∃ j, tr_B po 0 j x := by
  intro r
  induction r with
  | zero =>
    intro x hr hx
    rcases hI.2.1 x hx with h | ⟨y, i, h1, h2, h3, h4⟩
    · exact ⟨0, h⟩
    · have := (tr_up hI hx h1).2.1; omega
  | succ r ih =>
    intro x hr hx
    rcases hI.2.1 x hx with h | ⟨y, i, h1, h2, h3, h4⟩
    · exact ⟨0, h⟩
    · have h5 := (tr_up hI hx h1).2.1
      obtain ⟨j, hj⟩ := ih y (by omega) h2
      exact ⟨j + 1, Or.inr ⟨y, h1, hj⟩⟩
theorem tr_rem {us us' : Nat → Prop} {po : Nat → Option Nat} {c c' : Nat → Nat} {ch ch' : Nat → Nat → Nat} {rk : Nat → Nat} {e : Nat} (hI : tr_I us po c ch rk) (hF : tr_F us po c' ch' rk) (hno : ∀ x i, us x → i < c' x → ch' x i ≠ e) (hPK : ∀ x, us x → x ≠ e → x = 0 ∨ tr_PK us po c' ch' x) (hus : ∀ x, us' x ↔ us x ∧ ¬ ∃ j, tr_B po e j x) : tr_I us' po c' ch' rk := by
  have ne : ∀ x, us' x → x ≠ e := fun x hx q => ((hus x).mp hx).2 ⟨0, q⟩
  refine ⟨⟨fun x hx => hF.1 x ((hus x).mp hx).1, fun p k hp hk => ?_, fun p i j hp hi hj h => hF.2.2 p i j ((hus p).mp hp).1 hi hj h⟩, fun x hx => ?_, fun x hx => ?_, fun h => hI.2.2.2 ((hus 0).mp h).1⟩
  · obtain ⟨h1, h2⟩ := (hus p).mp hp
    obtain ⟨g1, g2, g3⟩ := hF.2.1 p k h1 hk
    exact ⟨(hus _).mpr ⟨g1, fun h => h2 ((tr_B_up (hno p k h1 hk) g2).mp h)⟩, g2, g3⟩
  · obtain ⟨h1, h2⟩ := (hus x).mp hx
    rcases hPK x h1 (ne x hx) with h | ⟨p, k, b1, b2, b3, b4⟩
    · exact Or.inl h
    · exact Or.inr ⟨p, k, b1, (hus p).mpr ⟨b2, fun h => h2 ((tr_B_up (ne x hx) b1).mpr h)⟩, b3, b4⟩
  · obtain ⟨h1, h2⟩ := (hus x).mp hx
    have u0 := hI.2.2.1 x h1
    refine (hus 0).mpr ⟨u0, ?_⟩
    by_cases q : e = 0
    · rw [q] at h2
      exact absurd (tr_all hI (rk x) x (Nat.le_refl _) h1) h2
    · exact tr_B_no (Ne.symm q) (hI.2.2.2 u0)
