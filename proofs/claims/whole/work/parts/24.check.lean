/-! ===== check: the order of the document ===== -/
def ck_o (po : Nat → Option Nat) (c : Nat → Nat) (ch : Nat → Nat → Nat) : List Nat → List Nat → Prop
  | [], _ => False
  | x :: l, st => match l with
    | [] => ∃ d r, tr_R po c ch d x r ∧ st = tr_kf ch x (c x) 0 ++ r
    | y :: _ => (∃ d r rest, tr_R po c ch d x r ∧ tr_kf ch x (c x) 0 ++ r = y :: rest) ∧ ck_o po c ch l st
theorem ck_R {us : Nat → Prop} {po : Nat → Option Nat} {c : Nat → Nat} {ch : Nat → Nat → Nat} {rk : Nat → Nat} (hI : tr_I us po c ch rk) {x d e : Nat} {r st : List Nat} (hx : us x) (h : tr_R po c ch d x r) (he : tr_kf ch x (c x) 0 ++ r = e :: st) : ∃ d', tr_R po c ch d' e st := by
  rcases Nat.eq_zero_or_pos (c x) with c0 | c0
  · rw [c0] at he
    have he' : r = e :: st := he
    rw [he'] at h
    -- along the way up all are elements
    have key : ∀ d x l, us x → tr_R po c ch d x (e :: l) → ∃ d', tr_R po c ch d' e l := by
      intro d
      induction d with
      | zero => rintro x l _ ⟨_, h⟩; cases h
      | succ d ih =>
        rintro x l hx ⟨p, k, l', h1, h2, h3, h4, h5⟩
        have up := (tr_up hI hx h1).1
        by_cases hc : k + 1 < c p
        · have e1 : c p - (k + 1) = (c p - (k + 1 + 1)) + 1 := by omega
          rw [e1] at h4
          have h4' : e :: l = ch p (k + 1) :: (tr_kf ch p (c p - (k + 1 + 1)) (k + 1 + 1) ++ l') := h4
          have h6 := List.cons.inj h4'
          have hp := (hI.1.2.1 p (k + 1) up hc).2.1
          rw [← h6.1] at hp
          exact ⟨d + 1, p, k + 1, l', hp, hc, h6.1.symm, h6.2, h5⟩
        · rw [show c p - (k + 1) = 0 by omega] at h4
          have h4' : e :: l = l' := h4
          rw [← h4'] at h5
          exact ih p l up h5
    exact key d x st hx h
  · have e1 : c x = (c x - 1) + 1 := by omega
    rw [e1] at he
    have he' : ch x 0 :: (tr_kf ch x (c x - 1) 1 ++ r) = e :: st := he
    have h6 := List.cons.inj he'
    have hp := (hI.1.2.1 x 0 hx c0).2.1
    have := tr_R_kid h c0 hp
    rw [h6.1, h6.2] at this
    exact ⟨d + 1, this⟩
theorem ck_s {us : Nat → Prop} {po : Nat → Option Nat} {c : Nat → Nat} {ch : Nat → Nat → Nat} {rk : Nat → Nat} (hI : tr_I us po c ch rk) {e : Nat} {st : List Nat} : ∀ ws : List Nat, (∀ x, x ∈ ws → us x) → ck_o po c ch ws (e :: st) → ck_o po c ch (ws ++ [e]) (tr_kf ch e (c e) 0 ++ st) := by
  intro ws
  induction ws with
  | nil => intro _ h; exact h.elim
  | cons x l ih =>
    intro hu h
    cases l with
    | nil =>
      obtain ⟨d, r, h1, h2⟩ := h
      obtain ⟨d', h3⟩ := ck_R hI (hu x List.mem_cons_self) h1 h2.symm
      exact ⟨⟨d, r, st, h1, h2.symm⟩, d', st, h3, rfl⟩
    | cons y l => exact ⟨h.1, ih (fun z hz => hu z (List.mem_cons_of_mem _ hz)) h.2⟩
def ck_f (σ : Nat → Int32) : List Nat → Nat → Int32 → Nat × Int32
  | [], b, f => (b, f)
  | x :: l, b, f => if σ x = 0 then ck_f σ l b f else ck_f σ l (b + 1) (if b = 0 then nI x else f)
section
variable {drafted latestPlace positions fragments elementCount : Int32} {draftKind draftValue weights tokenAt fragmentBegin fragmentFirst fragmentLast fragmentEmpty reachedWith follow bearing accepting kindOfType leastOf greatestOf listedCount listedValue attributeUse attributeType typeOfName inUse nameOf parentOf kidCount kids hasValue valueOf hasAttribute attributeValue walked waiting : Nat → Int32} {yroot yrowLength yfirst youts ytop : Int32} {ykind ywith ysize yparent yrow yends ylack yshortest youtKind youtWith ywork yworkWith yweight yfollow yfirsts ylasts ybare ymet ynameAt ytokenAt ytodo : Nat → Int32}
theorem sx_chk46 {post : Int32 → SX → Prop} {ws : List Nat} {wh : Int32} {σ : Nat → Int32} (hwk : wk_R walked ws) (hl : ws.length ≤ 24) (hσ : ∀ x, x ∈ ws → x < 24 ∧ ∀ post : Int32 → Prop, post (σ x) → wpX_statusOf post (drafted, latestPlace, positions, fragments, elementCount, draftKind, draftValue, weights, tokenAt, fragmentBegin, fragmentFirst, fragmentLast, fragmentEmpty, reachedWith, follow, bearing, accepting, kindOfType, leastOf, greatestOf, listedCount, listedValue, attributeUse, attributeType, typeOfName, inUse, nameOf, parentOf, kidCount, kids, hasValue, valueOf, hasAttribute, attributeValue, walked, waiting) (nI x)) : ∀ (m i b : Nat) (f : Int32), i + m = ws.length → b ≤ i → ((wh = 0 → post (nI (ck_f σ (ws.drop i) b f).1) (drafted, latestPlace, positions, fragments, elementCount, draftKind, draftValue, weights, tokenAt, fragmentBegin, fragmentFirst, fragmentLast, fragmentEmpty, reachedWith, follow, bearing, accepting, kindOfType, leastOf, greatestOf, listedCount, listedValue, attributeUse, attributeType, typeOfName, inUse, nameOf, parentOf, kidCount, kids, hasValue, valueOf, hasAttribute, attributeValue, walked, waiting)) ∧ (¬ wh = 0 → post (ck_f σ (ws.drop i) b f).2 (drafted, latestPlace, positions, fragments, elementCount, draftKind, draftValue, weights, tokenAt, fragmentBegin, fragmentFirst, fragmentLast, fragmentEmpty, reachedWith, follow, bearing, accepting, kindOfType, leastOf, greatestOf, listedCount, listedValue, attributeUse, attributeType, typeOfName, inUse, nameOf, parentOf, kidCount, kids, hasValue, valueOf, hasAttribute, attributeValue, walked, waiting))) → wX_check_46 post wh (nI ws.length) drafted latestPlace positions fragments elementCount draftKind draftValue weights tokenAt fragmentBegin fragmentFirst fragmentLast fragmentEmpty reachedWith follow bearing accepting kindOfType leastOf greatestOf listedCount listedValue attributeUse attributeType typeOfName inUse nameOf parentOf kidCount kids hasValue valueOf hasAttribute attributeValue walked waiting (m + 1) (nI b) f (nI i) := by
  intro m
  induction m with
  | zero =>
    intro i b f hi hb h
    rw [List.drop_eq_nil_of_le (by omega)] at h
    exact br_t (nI_le (by omega) (by omega)) h
  | succ m ih =>
    intro i b f hi hb h
    have hi' : i < ws.length := by omega
    have hx : ws[i]? = some ws[i] := List.getElem?_eq_getElem hi'
    obtain ⟨x24, hX⟩ := hσ ws[i] (List.getElem_mem hi')
    rw [List.drop_eq_getElem_cons hi'] at h
    have ew : walked (nI i).toNatClampNeg = nI ws[i] := by rw [nb_cl (by omega)]; exact hwk i _ hx
    refine br_f (nI_ge (by omega) (by omega)) ⟨vp_in_nI (by omega) (by omega), ?_⟩
    rw [ew]
    refine hX _ ?_
    by_cases s0 : σ ws[i] = 0
    · simp only [ck_f, if_pos s0] at h
      exact br_t s0 (nm_r (nI_1 i) (ih (i + 1) b f (by omega) (by omega) h))
    · simp only [ck_f, if_neg s0] at h
      refine br_f s0 ?_
      by_cases b0 : b = 0
      · rw [if_pos b0] at h
        exact br_t (by rw [b0]; rfl) ⟨vp_in_nI (by omega) (by omega), nm_r (e' := nI ws[i]) (by first | rfl | exact ew) (nm_r (nI_1 b) (nm_r (nI_1 i) (ih (i + 1) (b + 1) _ (by omega) (by omega) h)))⟩
      · rw [if_neg b0] at h
        exact br_f (nI_ne0 (by omega) (by omega)) (nm_r (nI_1 b) (nm_r (nI_1 i) (ih (i + 1) (b + 1) f (by omega) (by omega) h)))
theorem nb_24x (x : Nat) : 24 * nI x = nI (24 * x) := pk_mul 24 x
theorem sy_nxt40 {post : Int32 → Prop} {J : Int32 → Prop} {x p k c : Nat} {ch : Nat → Nat → Nat} (hp : p < 24) (hc : c ≤ 23) (hct : kidCount p = nI c) (hk : ∀ i, i < c → (kids (24 * p + i) = nI x ↔ i = k)) (hkc : k < c) (h1 : c ≤ k + 1 → J (nI p)) (h0 : k + 1 < c → post (kids (24 * p + (k + 1)))) : ∀ m i, i + m = k → wY_next_40 post J (nI x) (nI p) latestPlace yroot yrowLength yfirst youts ytop ykind ywith ysize kindOfType listedCount attributeUse attributeType leastOf greatestOf listedValue typeOfName inUse hasValue hasAttribute nameOf yparent kids kidCount yrow valueOf attributeValue yends ylack yshortest youtKind youtWith ywork yworkWith yweight yfollow yfirsts ylasts ybare ymet ynameAt ytokenAt ytodo (m + 1) (nI i) := by
  intro m
  induction m with
  | zero =>
    intro i hi
    obtain rfl : i = k := by omega
    show vp_in (24 * nI p + nI i) 600 ∧ _
    rw [nb_24m, nI_1, nI_1]
    refine ⟨vp_in_nI (by omega) (by omega), br_t (by rw [nb_cl (by omega)]; exact (hk i hkc).mpr rfl) ⟨vp_in_nI hp (by omega), ?_⟩⟩
    rw [nb_cl (by omega), nb_cl (by omega)]
    exact pk_le c (i + 1) h1 (fun h => ⟨vp_in_nI (by omega) (by omega), h0 h⟩) hct
  | succ m ih =>
    intro i hi
    show vp_in (24 * nI p + nI i) 600 ∧ _
    rw [nb_24m]
    exact ⟨vp_in_nI (by omega) (by omega), br_f (by rw [nb_cl (by omega)]; exact fun e => absurd ((hk i (by omega)).mp e) (by omega)) (nm_r (nI_1 i) (ih (i + 1) (by omega)))⟩
theorem sy_nxt21 {post : Int32 → Prop} {po : Nat → Option Nat} {c : Nat → Nat} {ch : Nat → Nat → Nat} {g rk : Nat → Nat} (hE : rl_E1 inUse nameOf parentOf kidCount kids yparent po c ch g rk) : ∀ (d x : Nat) (r : List Nat), inUse x ≠ 0 → tr_R po c ch d x r → (r = [] → post (-1)) → (∀ y l, r = y :: l → post (nI y)) → wY_next_21 post latestPlace yroot yrowLength yfirst youts ytop ykind ywith ysize kindOfType listedCount attributeUse attributeType leastOf greatestOf listedValue typeOfName inUse hasValue hasAttribute nameOf yparent kids kidCount yrow valueOf attributeValue yends ylack yshortest youtKind youtWith ywork yworkWith yweight yfollow yfirsts ylasts ybare ymet ynameAt ytokenAt ytodo (d + 1) (nI x) := by
  obtain ⟨a1, a2, a3, a4, hI⟩ := hE
  intro d
  induction d with
  | zero =>
    rintro x r hx ⟨h1, h2⟩ p0 p1
    have x24 := hI.1.1 x hx
    have ep : yparent (nI x).toNatClampNeg = -1 := by rw [nb_cl (by omega), (a3 x x24 hx).2.2, h1]; rfl
    exact ⟨vp_in_nI x24 (by omega), br_t (by rw [ep]; decide) (p0 h2)⟩
  | succ d ih =>
    rintro x r hx ⟨p, k, l', h1, h2, h3, h4, h5⟩ p0 p1
    have x24 := hI.1.1 x hx
    have up := (tr_up hI hx h1).1
    have p24 := hI.1.1 p up
    have ep : yparent (nI x).toNatClampNeg = nI p := by rw [nb_cl (by omega), (a3 x x24 hx).2.2, h1]; rfl
    have vx : vp_in (nI x) 24 := vp_in_nI x24 (by omega)
    refine ⟨vx, br_f (by rw [ep]; exact nI_pos (by omega)) ⟨vx, nm_r ep ⟨k + 1, ?_⟩⟩⟩
    have h23 := tr_F_c hI.1 up
    refine sy_nxt40 (c := c p) (k := k) (ch := ch) p24 h23 (a3 p p24 up).1 (rl_kid hI.1 a4 up h2 h3) h2 (fun hle => ?_) (fun hlt => ?_) k 0 (by omega)
    · rw [show c p - (k + 1) = 0 by omega] at h4
      have h4' : r = l' := h4
      rw [h4'] at p0 p1
      exact ih p l' up h5 p0 p1
    · rw [a4 p (k + 1) p24 up hlt]
      have e1 : c p - (k + 1) = (c p - (k + 1 + 1)) + 1 := by omega
      rw [e1] at h4
      exact p1 (ch p (k + 1)) _ h4
theorem sy_next {post : Int32 → Prop} {po : Nat → Option Nat} {c : Nat → Nat} {ch : Nat → Nat → Nat} {g rk : Nat → Nat} (hE : rl_E1 inUse nameOf parentOf kidCount kids yparent po c ch g rk) {d x : Nat} {r : List Nat} (hx : inUse x ≠ 0) (hR : tr_R po c ch d x r) (p0 : tr_kf ch x (c x) 0 ++ r = [] → post (-1)) (p1 : ∀ y l, tr_kf ch x (c x) 0 ++ r = y :: l → post (nI y)) : wpY_next post (latestPlace, yroot, yrowLength, yfirst, youts, ytop, ykind, ywith, ysize, kindOfType, listedCount, attributeUse, attributeType, leastOf, greatestOf, listedValue, typeOfName, inUse, hasValue, hasAttribute, nameOf, yparent, kids, kidCount, yrow, valueOf, attributeValue, yends, ylack, yshortest, youtKind, youtWith, ywork, yworkWith, yweight, yfollow, yfirsts, ylasts, ybare, ymet, ynameAt, ytokenAt, ytodo) (nI x) := by
  have hE' := hE
  obtain ⟨a1, a2, a3, a4, hI⟩ := hE'
  have x24 := hI.1.1 x hx
  have h23 := tr_F_c hI.1 hx
  have ec : kidCount (nI x).toNatClampNeg = nI (c x) := by rw [nb_cl (by omega)]; exact (a3 x x24 hx).1
  refine ⟨vp_in_nI x24 (by omega), ?_⟩
  rw [ec, nb_24x]
  refine pk_le (c x) 0 (fun hle => ?_) (fun hlt => ?_)
  · have c0 : c x = 0 := by omega
    rw [c0] at p0 p1
    exact ⟨d + 1, sy_nxt21 hE d x r hx hR p0 p1⟩
  · refine ⟨vp_in_nI (by omega) (by omega), ?_⟩
    rw [nb_cl (by omega)]
    have e0 := a4 x 0 x24 hx hlt
    rw [Nat.add_zero] at e0
    rw [e0]
    have e1 : c x = (c x - 1) + 1 := by omega
    refine p1 (ch x 0) (tr_kf ch x (c x - 1) 1 ++ r) ?_
    rw [e1]
    rfl
theorem sy_chk23 {post : Int32 → SY → Prop} {wh : Int32} {po : Nat → Option Nat} {c : Nat → Nat} {ch : Nat → Nat → Nat} {g rk : Nat → Nat} {σ : Nat → Int32} (hE : rl_E1 inUse nameOf parentOf kidCount kids yparent po c ch g rk) (hσ : ∀ x, inUse x ≠ 0 → ∀ (yrowLength yfirst : Int32) (yrow yends ylack yshortest : Nat → Int32) (post : Int32 → SY → Prop), (∀ (yrowLength yfirst : Int32) (yrow yends ylack yshortest : Nat → Int32), post (σ x) (latestPlace, yroot, yrowLength, yfirst, youts, ytop, ykind, ywith, ysize, kindOfType, listedCount, attributeUse, attributeType, leastOf, greatestOf, listedValue, typeOfName, inUse, hasValue, hasAttribute, nameOf, yparent, kids, kidCount, yrow, valueOf, attributeValue, yends, ylack, yshortest, youtKind, youtWith, ywork, yworkWith, yweight, yfollow, yfirsts, ylasts, ybare, ymet, ynameAt, ytokenAt, ytodo)) → wpY_status post (latestPlace, yroot, yrowLength, yfirst, youts, ytop, ykind, ywith, ysize, kindOfType, listedCount, attributeUse, attributeType, leastOf, greatestOf, listedValue, typeOfName, inUse, hasValue, hasAttribute, nameOf, yparent, kids, kidCount, yrow, valueOf, attributeValue, yends, ylack, yshortest, youtKind, youtWith, ywork, yworkWith, yweight, yfollow, yfirsts, ylasts, ybare, ymet, ynameAt, ytokenAt, ytodo) (nI x)) : ∀ (l : List Nat) (x n b : Nat) (f : Int32) (yrowLength yfirst : Int32) (yrow yends ylack yshortest : Nat → Int32), (∀ y, y ∈ x :: l → inUse y ≠ 0) → ck_o po c ch (x :: l) [] → b + l.length ≤ 100 → n + l.length ≤ 100 → (∀ (yrowLength yfirst : Int32) (yrow yends ylack yshortest : Nat → Int32), (wh = 0 → post (nI (ck_f σ (x :: l) b f).1) (latestPlace, yroot, yrowLength, yfirst, youts, ytop, ykind, ywith, ysize, kindOfType, listedCount, attributeUse, attributeType, leastOf, greatestOf, listedValue, typeOfName, inUse, hasValue, hasAttribute, nameOf, yparent, kids, kidCount, yrow, valueOf, attributeValue, yends, ylack, yshortest, youtKind, youtWith, ywork, yworkWith, yweight, yfollow, yfirsts, ylasts, ybare, ymet, ynameAt, ytokenAt, ytodo)) ∧ (¬ wh = 0 → (wh = 1 → post (ck_f σ (x :: l) b f).2 (latestPlace, yroot, yrowLength, yfirst, youts, ytop, ykind, ywith, ysize, kindOfType, listedCount, attributeUse, attributeType, leastOf, greatestOf, listedValue, typeOfName, inUse, hasValue, hasAttribute, nameOf, yparent, kids, kidCount, yrow, valueOf, attributeValue, yends, ylack, yshortest, youtKind, youtWith, ywork, yworkWith, yweight, yfollow, yfirsts, ylasts, ybare, ymet, ynameAt, ytokenAt, ytodo)) ∧ (¬ wh = 1 → post (nI (n + l.length + 1)) (latestPlace, yroot, yrowLength, yfirst, youts, ytop, ykind, ywith, ysize, kindOfType, listedCount, attributeUse, attributeType, leastOf, greatestOf, listedValue, typeOfName, inUse, hasValue, hasAttribute, nameOf, yparent, kids, kidCount, yrow, valueOf, attributeValue, yends, ylack, yshortest, youtKind, youtWith, ywork, yworkWith, yweight, yfollow, yfirsts, ylasts, ybare, ymet, ynameAt, ytokenAt, ytodo)))) → wY_check_23 post wh (l.length + 2) (nI n) (nI b) f (nI x) latestPlace yroot yrowLength yfirst youts ytop ykind ywith ysize kindOfType listedCount attributeUse attributeType leastOf greatestOf listedValue typeOfName inUse hasValue hasAttribute nameOf yparent kids kidCount yrow valueOf attributeValue yends ylack yshortest youtKind youtWith ywork yworkWith yweight yfollow yfirsts ylasts ybare ymet ynameAt ytokenAt ytodo := by
  have hI := hE.2.2.2.2
  intro l
  induction l with
  | nil =>
    intro x n b f yrowLength yfirst yrow yends ylack yshortest hu hck hb hn h
    have ux := hu x List.mem_cons_self
    have x24 := hI.1.1 x ux
    obtain ⟨d, r, hR, hst⟩ := hck
    have fin : ∀ (b' : Nat) (f' : Int32) (yrowLength yfirst : Int32) (yrow yends ylack yshortest : Nat → Int32), ck_f σ [x] b f = (b', f') → wY_check_54 post (wY_check_23 post wh 1) wh (nI (n + 1)) (nI b') f' (nI x) latestPlace yroot yrowLength yfirst youts ytop ykind ywith ysize kindOfType listedCount attributeUse attributeType leastOf greatestOf listedValue typeOfName inUse hasValue hasAttribute nameOf yparent kids kidCount yrow valueOf attributeValue yends ylack yshortest youtKind youtWith ywork yworkWith yweight yfollow yfirsts ylasts ybare ymet ynameAt ytokenAt ytodo := by
      intro b' f' yrowLength yfirst yrow yends ylack yshortest hf
      unfold wY_check_54
      refine sy_next hE ux hR (fun _ => ?_) (fun y l' q => by rw [← hst] at q; cases q)
      refine br_t (by decide) ?_
      have h' := h yrowLength yfirst yrow yends ylack yshortest
      rw [hf] at h'
      exact h'
    refine br_f (nI_pos (by omega)) (nm_r (nI_1 n) ?_)
    refine hσ x ux yrowLength yfirst yrow yends ylack yshortest _ (fun yrowLength yfirst yrow yends ylack yshortest => ?_)
    by_cases s0 : σ x = 0
    · exact br_t s0 (fin b f yrowLength yfirst yrow yends ylack yshortest (by simp only [ck_f, if_pos s0]))
    · refine br_f s0 (nm_r (nI_1 b) ?_)
      by_cases b0 : b = 0
      · exact br_t (by rw [b0]; rfl) (fin (b + 1) (nI x) yrowLength yfirst yrow yends ylack yshortest (by simp only [ck_f, if_neg s0, if_pos b0]))
      · exact br_f (nI_ne0 (by omega) (by omega)) (fin (b + 1) f yrowLength yfirst yrow yends ylack yshortest (by simp only [ck_f, if_neg s0, if_neg b0]))
  | cons y l ih =>
    intro x n b f yrowLength yfirst yrow yends ylack yshortest hu hck hb hn h
    rw [List.length_cons] at hb hn
    have ux := hu x List.mem_cons_self
    have x24 := hI.1.1 x ux
    obtain ⟨⟨d, r, rest, hR, hst⟩, hck'⟩ := hck
    have fin : ∀ (b' : Nat) (f' : Int32) (yrowLength yfirst : Int32) (yrow yends ylack yshortest : Nat → Int32), b' ≤ b + 1 → ck_f σ (x :: y :: l) b f = ck_f σ (y :: l) b' f' → wY_check_54 post (wY_check_23 post wh (l.length + 2)) wh (nI (n + 1)) (nI b') f' (nI x) latestPlace yroot yrowLength yfirst youts ytop ykind ywith ysize kindOfType listedCount attributeUse attributeType leastOf greatestOf listedValue typeOfName inUse hasValue hasAttribute nameOf yparent kids kidCount yrow valueOf attributeValue yends ylack yshortest youtKind youtWith ywork yworkWith yweight yfollow yfirsts ylasts ybare ymet ynameAt ytokenAt ytodo := by
      intro b' f' yrowLength yfirst yrow yends ylack yshortest hb' hf
      unfold wY_check_54
      refine sy_next hE ux hR (fun q => by rw [hst] at q; cases q) (fun y' l' q => ?_)
      rw [hst] at q
      rw [← (List.cons.inj q).1]
      refine ih y (n + 1) b' f' yrowLength yfirst yrow yends ylack yshortest (fun z hz => hu z (List.mem_cons_of_mem _ hz)) hck' (by omega) (by omega) (fun yrowLength yfirst yrow yends ylack yshortest => ?_)
      have h' := h yrowLength yfirst yrow yends ylack yshortest
      rw [hf, List.length_cons, show n + (l.length + 1) + 1 = n + 1 + l.length + 1 by omega] at h'
      exact h'
    refine br_f (nI_pos (by omega)) (nm_r (nI_1 n) ?_)
    refine hσ x ux yrowLength yfirst yrow yends ylack yshortest _ (fun yrowLength yfirst yrow yends ylack yshortest => ?_)
    by_cases s0 : σ x = 0
    · exact br_t s0 (fin b f yrowLength yfirst yrow yends ylack yshortest (by omega) (by simp only [ck_f, if_pos s0]))
    · refine br_f s0 (nm_r (nI_1 b) ?_)
      by_cases b0 : b = 0
      · exact br_t (by rw [b0]; rfl) (fin (b + 1) (nI x) yrowLength yfirst yrow yends ylack yshortest (by omega) (by simp only [ck_f, if_neg s0, if_pos b0]))
      · exact br_f (nI_ne0 (by omega) (by omega)) (fin (b + 1) f yrowLength yfirst yrow yends ylack yshortest (by omega) (by simp only [ck_f, if_neg s0, if_neg b0]))
end
theorem tr_walk {us : Nat → Prop} {po : Nat → Option Nat} {c : Nat → Nat} {ch : Nat → Nat → Nat} {rk : Nat → Nat} {top : Nat} {Inv : List Nat → List Nat → Prop} (hF : tr_F us po c ch rk) (hInv : ∀ ws e st, us e → Inv ws (e :: st) → Inv (ws ++ [e]) (tr_kf ch e (c e) 0 ++ st)) : ∀ (m : Nat) (ws st : List Nat), ws.length + m = 24 → tr_V us po c ch rk top ws st → Inv ws st → ∃ ws', tr_V us po c ch rk top ws' [] ∧ Inv ws' [] := by
  intro m
  induction m with
  | zero =>
    intro ws st hm hV hI
    have hl := tr_V_len hF hV
    have hs : st = [] := List.length_eq_zero_iff.mp (by omega)
    rw [hs] at hV hI
    exact ⟨ws, hV, hI⟩
  | succ m ih =>
    intro ws st hm hV hI
    cases st with
    | nil => exact ⟨ws, hV, hI⟩
    | cons e st =>
      have ue : us e := (hV.2.1 e (List.mem_append.mpr (Or.inr List.mem_cons_self))).1
      exact ih _ _ (by rw [List.length_append, List.length_singleton]; omega) (tr_V_s hF hV) (hInv ws e st ue hI)
def ck_I (us : Nat → Prop) (po : Nat → Option Nat) (c : Nat → Nat) (ch : Nat → Nat → Nat) (ws st : List Nat) : Prop := (∀ x, x ∈ ws → us x) ∧ ((ws = [] ∧ st = [0]) ∨ ((∃ l, ws = 0 :: l) ∧ ck_o po c ch ws st))
theorem ck_I_s {us : Nat → Prop} {po : Nat → Option Nat} {c : Nat → Nat} {ch : Nat → Nat → Nat} {rk : Nat → Nat} (hI : tr_I us po c ch rk) (ws : List Nat) (e : Nat) (st : List Nat) (he : us e) (h : ck_I us po c ch ws (e :: st)) : ck_I us po c ch (ws ++ [e]) (tr_kf ch e (c e) 0 ++ st) := by
  obtain ⟨h1, h2⟩ := h
  refine ⟨fun x hx => ?_, Or.inr ?_⟩
  · rcases List.mem_append.mp hx with hx | hx
    · exact h1 x hx
    · rw [List.mem_singleton.mp hx]; exact he
  · rcases h2 with ⟨q1, q2⟩ | ⟨⟨l, q1⟩, q2⟩
    · have q3 := List.cons.inj q2
      rw [q1, q3.1, q3.2]
      rw [q3.1] at he
      exact ⟨⟨[], rfl⟩, 0, [], ⟨hI.2.2.2 he, rfl⟩, rfl⟩
    · exact ⟨⟨l ++ [e], by rw [q1]; rfl⟩, ck_s hI ws h1 q2⟩
theorem ck_I_0 {us : Nat → Prop} {po : Nat → Option Nat} {c : Nat → Nat} {ch : Nat → Nat → Nat} : ck_I us po c ch [] [0] := ⟨(fun x hx => by cases hx), Or.inl ⟨rfl, rfl⟩⟩
