/-! ===== may, fitting, missing: the owed ones ===== -/
section
variable {drafted latestPlace positions fragments elementCount : Int32} {draftKind draftValue weights tokenAt fragmentBegin fragmentFirst fragmentLast fragmentEmpty reachedWith follow bearing accepting kindOfType leastOf greatestOf listedCount listedValue attributeUse attributeType typeOfName inUse nameOf parentOf kidCount kids hasValue valueOf hasAttribute attributeValue walked waiting : Nat → Int32} {yroot yrowLength yfirst youts ytop : Int32} {ykind ywith ysize yparent yrow yends ylack yshortest youtKind youtWith ywork yworkWith yweight yfollow yfirsts ylasts ybare ymet ynameAt ytokenAt ytodo : Nat → Int32}
theorem sy_may32 {post : Int32 → SY → Prop} {e k t c : Nat} {g : Nat → Nat} {ch : Nat → Nat → Nat} {kd vl : Nat → Nat} {R : ex_T} (he : e < 24) (ht : t < 6) (hkc : k ≤ c) (hc : c ≤ 23) (hct : kidCount e = nI c) (hk : ∀ i, i < c → kids (24 * e + i) = nI (ch e i) ∧ ch e i < 24) (hg : ∀ x, x < 24 → nameOf x = nI (g x) ∧ g x < 6) (hs : ysize t = nI (ex_n R)) (h16 : ex_n R ≤ 16) (hK : rl_K ykind ywith (16 * t) (ex_n R) kd vl) (hS : ex_S kd vl R 0) (hW : ex_W R) (hw : ex_w R ≤ 30)
    (h : ∀ (yrowLength yfirst : Int32) (yrow yends ylack yshortest : Nat → Int32), post (my_s (fun n => ex_L vl R (dp_sl (kn_w g ch e) k 0 ++ n :: dp_sl (kn_w g ch e) (c - k) k)) 6) (latestPlace, yroot, yrowLength, yfirst, youts, ytop, ykind, ywith, ysize, kindOfType, listedCount, attributeUse, attributeType, leastOf, greatestOf, listedValue, typeOfName, inUse, hasValue, hasAttribute, nameOf, yparent, kids, kidCount, yrow, valueOf, attributeValue, yends, ylack, yshortest, youtKind, youtWith, ywork, yworkWith, yweight, yfollow, yfirsts, ylasts, ybare, ymet, ynameAt, ytokenAt, ytodo)) : ∀ (m n : Nat) (yrowLength yfirst : Int32) (yrow yends ylack yshortest : Nat → Int32), n + m = 6 → wY_may_32 post (nI e) (nI k) (nI t) (m + 1) (my_s (fun n => ex_L vl R (dp_sl (kn_w g ch e) k 0 ++ n :: dp_sl (kn_w g ch e) (c - k) k)) n) (nI n) latestPlace yroot yrowLength yfirst youts ytop ykind ywith ysize kindOfType listedCount attributeUse attributeType leastOf greatestOf listedValue typeOfName inUse hasValue hasAttribute nameOf yparent kids kidCount yrow valueOf attributeValue yends ylack yshortest youtKind youtWith ywork yworkWith yweight yfollow yfirsts ylasts ybare ymet ynameAt ytokenAt ytodo := by
  have hrn : ∀ i, i < c → kn_w g ch e i < 6 := fun i hi => (hg _ (hk i hi).2).2
  intro m
  induction m with
  | zero =>
    intro n yrowLength yfirst yrow yends ylack yshortest hn
    obtain rfl : n = 6 := by omega
    exact br_t (by decide) (h yrowLength yfirst yrow yends ylack yshortest)
  | succ m ih =>
    intro n yrowLength yfirst yrow yends ylack yshortest hn
    refine br_f (nI_ge (b := 6) (by omega) (by omega)) ?_
    refine sy_rowOf (g := g) (ch := ch) he (by omega) hct hk hg (fun row hr => ⟨c - k + 1, ?_⟩)
    refine sy_may50 (w := kn_w g ch e) (R := R) ht hkc hc (by omega) hrn hs h16 hK hS hW hw (fun hL yrowLength yfirst yrow yends ylack yshortest => ?_) (fun hL yrowLength yfirst yrow yends ylack yshortest => ?_) (c - k) c row (by omega) (Nat.le_refl _) hr (fun j h1 h2 => by omega)
    · have ih' := ih (n + 1) yrowLength yfirst yrow yends ylack yshortest (by omega)
      rw [my_t hL] at ih'
      exact ih'
    · have ih' := ih (n + 1) yrowLength yfirst yrow yends ylack yshortest (by omega)
      rw [my_f hL] at ih'
      exact ih'
end
theorem i_vc_may {k : Nat} {u : SX} {v : SY} (I : i_Rel k u v) (hk : k + 5 ≤ 2560) (v1 : Int32) (v2 : Int32) : wpX_may (fun r => wpY_may (fun r' v' => r' = r ∧ i_Rel (k + 5) u v') v v1 v2) u v1 v2 := by
  refine i_el I (P := fun u v => wpX_may (fun r => wpY_may (fun r' v' => r' = r ∧ i_Rel (k + 5) u v') v v1 v2) u v1 v2) ?_
  intro d latestPlace positions fragments elementCount draftKind draftValue weights tokenAt fragmentBegin fragmentFirst fragmentLast fragmentEmpty reachedWith follow bearing accepting kindOfType leastOf greatestOf listedCount listedValue attributeUse attributeType typeOfName inUse nameOf parentOf kidCount kids hasValue valueOf hasAttribute attributeValue walked waiting yroot yrowLength yfirst youts ytop ykind ywith ysize yparent yrow yends ylack yshortest youtKind youtWith ywork yworkWith yweight yfollow yfirsts ylasts ybare ymet ynameAt ytokenAt ytodo hD hT hM hE
  have hE' := hE
  obtain ⟨_, _, _, po, c, ch, g, rk, a1, a2, a3, a4, hI⟩ := hE'
  unfold wpX_may
  rcases cx_cs (iu := inUse) (so := kindOfType) (tn := typeOfName) (g := g) v1 with hno | ⟨e, t, he, rfl, hu, ht, tn, hs⟩
  · refine cx_X0 hT a2 hno ?_
    refine br_t rfl ?_
    unfold wpY_may
    refine cx_Y0 hT a2 hno ?_
    exact br_t (by decide) ⟨rfl, i_mk hD hT hM hE⟩
  · refine cx_X1 a2 he hu ht tn hs ?_
    refine br_f (nb_nm (by omega)) ?_
    have Y0 : ∀ {post : Int32 → SY → Prop}, ((v2 < 0 → post 0 (latestPlace, yroot, yrowLength, yfirst, youts, ytop, ykind, ywith, ysize, kindOfType, listedCount, attributeUse, attributeType, leastOf, greatestOf, listedValue, typeOfName, inUse, hasValue, hasAttribute, nameOf, yparent, kids, kidCount, yrow, valueOf, attributeValue, yends, ylack, yshortest, youtKind, youtWith, ywork, yworkWith, yweight, yfollow, yfirsts, ylasts, ybare, ymet, ynameAt, ytokenAt, ytodo)) ∧ (¬ v2 < 0 → (vp_in (nI e) 24 ∧ (v2 ≤ kidCount (nI e).toNatClampNeg → ∃ n32 : Nat, wY_may_32 post (nI e) v2 (nI t) n32 0 0 latestPlace yroot yrowLength yfirst youts ytop ykind ywith ysize kindOfType listedCount attributeUse attributeType leastOf greatestOf listedValue typeOfName inUse hasValue hasAttribute nameOf yparent kids kidCount yrow valueOf attributeValue yends ylack yshortest youtKind youtWith ywork yworkWith yweight yfollow yfirsts ylasts ybare ymet ynameAt ytokenAt ytodo) ∧ (¬ v2 ≤ kidCount (nI e).toNatClampNeg → post 0 (latestPlace, yroot, yrowLength, yfirst, youts, ytop, ykind, ywith, ysize, kindOfType, listedCount, attributeUse, attributeType, leastOf, greatestOf, listedValue, typeOfName, inUse, hasValue, hasAttribute, nameOf, yparent, kids, kidCount, yrow, valueOf, attributeValue, yends, ylack, yshortest, youtKind, youtWith, ywork, yworkWith, yweight, yfollow, yfirsts, ylasts, ybare, ymet, ynameAt, ytokenAt, ytodo))))) → wpY_may post (latestPlace, yroot, yrowLength, yfirst, youts, ytop, ykind, ywith, ysize, kindOfType, listedCount, attributeUse, attributeType, leastOf, greatestOf, listedValue, typeOfName, inUse, hasValue, hasAttribute, nameOf, yparent, kids, kidCount, yrow, valueOf, attributeValue, yends, ylack, yshortest, youtKind, youtWith, ywork, yworkWith, yweight, yfollow, yfirsts, ylasts, ybare, ymet, ynameAt, ytokenAt, ytodo) (nI e) v2 := by
      intro post h
      unfold wpY_may
      refine cx_Y1 a2 he hu ht tn hs ?_
      exact br_f (nI_pos (by omega)) h
    have ve : vp_in (nI e) 24 := vp_in_nI he (by omega)
    have h23 := tr_F_c hI.1 hu
    have hct : kidCount e = nI (c e) := (a3 e he hu).1
    have ec : kidCount (nI e).toNatClampNeg = nI (c e) := by rw [nb_cl (by omega), hct]
    have hkk : ∀ i, i < c e → kids (24 * e + i) = nI (ch e i) ∧ ch e i < 24 := fun i hi => ⟨a4 e i he hu hi, hI.1.1 _ (hI.1.2.1 e i hu hi).1⟩
    obtain ⟨kd, vl, R, m1, m2, m3, m4, m5, m6, m7⟩ := hM t ht hs
    by_cases h0 : v2 < 0
    · exact br_t h0 (Y0 (br_t h0 ⟨rfl, i_mk hD hT hM hE⟩))
    · obtain ⟨i, hi, rfl⟩ := nI_of h0
      refine br_f h0 ⟨ve, ?_⟩
      rw [ec]
      by_cases hle : i ≤ c e
      · refine br_t (nI_le hle (by omega)) ?_
        refine sx_afterKids (fr := 0) (to := i) (g := g) (ch := ch) (by omega) he (by omega) (by omega) (fun j hj => hkk j (by omega)) a2 ⟨7, ?_⟩
        refine sx_may45 (c := c e) he ht hle h23 hct hkk a2 m7 ?_ 6 0 (by omega)
        refine Y0 (br_f h0 ⟨ve, br_t (by rw [ec]; exact nI_le hle (by omega)) ⟨7, ?_⟩⟩)
        exact sy_may32 (c := c e) he ht hle h23 hct hkk a2 m2 m1 m3 m4 m5 m6 (fun yrowLength yfirst yrow yends ylack yshortest => ⟨rfl, i_mk hD hT hM hE⟩) 6 0 yrowLength yfirst yrow yends ylack yshortest (by omega)
      · have nle : ¬ nI i ≤ nI (c e) := nI_ge (by omega) hi
        exact br_f nle (Y0 (br_f h0 ⟨ve, br_f (by rw [ec]; exact nle) ⟨rfl, i_mk hD hT hM hE⟩⟩))
theorem i_vc_fitting {k : Nat} {u : SX} {v : SY} (I : i_Rel k u v) (hk : k + 5 ≤ 2560) (v1 : Int32) : wpX_fitting (fun r => wpY_fitting (fun r' v' => r' = r ∧ i_Rel (k + 5) u v') v v1) u v1 := by
  refine i_el I (P := fun u v => wpX_fitting (fun r => wpY_fitting (fun r' v' => r' = r ∧ i_Rel (k + 5) u v') v v1) u v1) ?_
  intro d latestPlace positions fragments elementCount draftKind draftValue weights tokenAt fragmentBegin fragmentFirst fragmentLast fragmentEmpty reachedWith follow bearing accepting kindOfType leastOf greatestOf listedCount listedValue attributeUse attributeType typeOfName inUse nameOf parentOf kidCount kids hasValue valueOf hasAttribute attributeValue walked waiting yroot yrowLength yfirst youts ytop ykind ywith ysize yparent yrow yends ylack yshortest youtKind youtWith ywork yworkWith yweight yfollow yfirsts ylasts ybare ymet ynameAt ytokenAt ytodo hD hT hM hE
  have hE' := hE
  obtain ⟨_, _, _, po, c, ch, g, rk, a1, a2, a3, a4, hI⟩ := hE'
  unfold wpX_fitting
  rcases cx_cs (iu := inUse) (so := kindOfType) (tn := typeOfName) (g := g) v1 with hno | ⟨e, t, he, rfl, hu, ht, tn, hs⟩
  · refine cx_X0 hT a2 hno ?_
    refine br_t rfl ?_
    unfold wpY_fitting
    refine cx_Y0 hT a2 hno ?_
    exact br_f (by decide) ⟨rfl, i_mk hD hT hM hE⟩
  · refine cx_X1 a2 he hu ht tn hs ?_
    refine br_f (nb_nm (by omega)) ?_
    have h23 := tr_F_c hI.1 hu
    have hct : kidCount e = nI (c e) := (a3 e he hu).1
    have hkk : ∀ i, i < c e → kids (24 * e + i) = nI (ch e i) ∧ ch e i < 24 := fun i hi => ⟨a4 e i he hu hi, hI.1.1 _ (hI.1.2.1 e i hu hi).1⟩
    have hrn : ∀ i, i < c e → kn_w g ch e i < 6 := fun i hi => (a2 _ (hkk i hi).2).2
    obtain ⟨kd, vl, R, m1, m2, m3, m4, m5, m6, m7⟩ := hM t ht hs
    have hne := ex_ne vl R m5
    have pc : ∀ n m, n ≤ m → (∃ v, ex_L vl R (dp_sl (kn_w g ch e) m 0 ++ v)) → ∃ v, ex_L vl R (dp_sl (kn_w g ch e) n 0 ++ v) := by
      rintro n m hnm ⟨v, hv⟩
      rw [show m = n + (m - n) by omega, dp_sl_add, List.append_assoc] at hv
      exact ⟨_, hv⟩
    refine ⟨c e + 1, sx_fit19 (c := c e) he ht h23 hct hkk a2 m7 hne (fun r hr hv hn => ?_) (c e) 0 (by omega) (by obtain ⟨u, hu⟩ := hne; exact ⟨u, hu⟩)⟩
    unfold wpY_fitting
    refine cx_Y1 a2 he hu ht tn hs ?_
    refine br_t (nb_pos (by omega)) ?_
    refine sy_rowOf (g := g) (ch := ch) he (by omega) hct hkk a2 (fun row hrow => ?_)
    refine sy_examine (w := kn_w g ch e) ht (by omega) (fun i hi => ⟨hrow i hi, hrn i hi⟩) m2 m1 m3 m4 m5 m6 (fun f sh en lk x _ hx hm => ⟨c e + 1, ?_⟩)
    refine sy_fit28 (c := c e) (w := kn_w g ch e) ht h23 (fun i hi => ⟨hrow i hi, hrn i hi⟩) m2 m1 m3 m4 m5 m6 (fun r' yfirst yends ylack yshortest hr' hv' hn' => ⟨?_, i_mk hD hT hM hE⟩) (c e) x f en lk sh (Nat.le_refl _) (fun r' h1 h2 => by omega) hx hm
    have e1 : r' = r := by
      rcases Nat.lt_trichotomy r r' with q | q | q
      · exact absurd (pc (r + 1) r' (by omega) hv') (hn (by omega))
      · exact q.symm
      · exact absurd hv (hn' r q hr)
    rw [e1]
theorem i_vc_missing {k : Nat} {u : SX} {v : SY} (I : i_Rel k u v) (hk : k + 5 ≤ 2560) (v1 : Int32) : wpX_missing (fun r => wpY_missing (fun r' v' => r' = r ∧ i_Rel (k + 5) u v') v v1) u v1 := by
  refine i_el I (P := fun u v => wpX_missing (fun r => wpY_missing (fun r' v' => r' = r ∧ i_Rel (k + 5) u v') v v1) u v1) ?_
  intro d latestPlace positions fragments elementCount draftKind draftValue weights tokenAt fragmentBegin fragmentFirst fragmentLast fragmentEmpty reachedWith follow bearing accepting kindOfType leastOf greatestOf listedCount listedValue attributeUse attributeType typeOfName inUse nameOf parentOf kidCount kids hasValue valueOf hasAttribute attributeValue walked waiting yroot yrowLength yfirst youts ytop ykind ywith ysize yparent yrow yends ylack yshortest youtKind youtWith ywork yworkWith yweight yfollow yfirsts ylasts ybare ymet ynameAt ytokenAt ytodo hD hT hM hE
  have hE' := hE
  obtain ⟨_, _, _, po, c, ch, g, rk, a1, a2, a3, a4, hI⟩ := hE'
  unfold wpX_missing
  rcases cx_cs (iu := inUse) (so := kindOfType) (tn := typeOfName) (g := g) v1 with hno | ⟨e, t, he, rfl, hu, ht, tn, hs⟩
  · refine cx_X0 hT a2 hno ?_
    refine br_t rfl ?_
    unfold wpY_missing
    refine cx_Y0 hT a2 hno ?_
    exact br_f (by decide) ⟨rfl, i_mk hD hT hM hE⟩
  · refine cx_X1 a2 he hu ht tn hs ?_
    refine br_f (nb_nm (by omega)) ?_
    have ve : vp_in (nI e) 24 := vp_in_nI he (by omega)
    have h23 := tr_F_c hI.1 hu
    have hct : kidCount e = nI (c e) := (a3 e he hu).1
    have hkk : ∀ i, i < c e → kids (24 * e + i) = nI (ch e i) ∧ ch e i < 24 := fun i hi => ⟨a4 e i he hu hi, hI.1.1 _ (hI.1.2.1 e i hu hi).1⟩
    have hrn : ∀ i, i < c e → kn_w g ch e i < 6 := fun i hi => (a2 _ (hkk i hi).2).2
    obtain ⟨kd, vl, R, m1, m2, m3, m4, m5, m6, m7⟩ := hM t ht hs
    have Y0 : ∀ {post : Int32 → SY → Prop}, (∀ x, dp_M 30 (dp_K (ex_L vl R) (kn_w g ch e) (c e) 0) x → ∀ (yrowLength yfirst : Int32) (yrow yends ylack yshortest : Nat → Int32), (nI x < 100000 → post (nI x) (latestPlace, yroot, yrowLength, yfirst, youts, ytop, ykind, ywith, ysize, kindOfType, listedCount, attributeUse, attributeType, leastOf, greatestOf, listedValue, typeOfName, inUse, hasValue, hasAttribute, nameOf, yparent, kids, kidCount, yrow, valueOf, attributeValue, yends, ylack, yshortest, youtKind, youtWith, ywork, yworkWith, yweight, yfollow, yfirsts, ylasts, ybare, ymet, ynameAt, ytokenAt, ytodo)) ∧ (¬ nI x < 100000 → post (-1) (latestPlace, yroot, yrowLength, yfirst, youts, ytop, ykind, ywith, ysize, kindOfType, listedCount, attributeUse, attributeType, leastOf, greatestOf, listedValue, typeOfName, inUse, hasValue, hasAttribute, nameOf, yparent, kids, kidCount, yrow, valueOf, attributeValue, yends, ylack, yshortest, youtKind, youtWith, ywork, yworkWith, yweight, yfollow, yfirsts, ylasts, ybare, ymet, ynameAt, ytokenAt, ytodo))) → wpY_missing post (latestPlace, yroot, yrowLength, yfirst, youts, ytop, ykind, ywith, ysize, kindOfType, listedCount, attributeUse, attributeType, leastOf, greatestOf, listedValue, typeOfName, inUse, hasValue, hasAttribute, nameOf, yparent, kids, kidCount, yrow, valueOf, attributeValue, yends, ylack, yshortest, youtKind, youtWith, ywork, yworkWith, yweight, yfollow, yfirsts, ylasts, ybare, ymet, ynameAt, ytokenAt, ytodo) (nI e) := by
      intro post h
      unfold wpY_missing
      refine cx_Y1 a2 he hu ht tn hs ?_
      refine br_t (nb_pos (by omega)) ?_
      refine sy_rowOf (g := g) (ch := ch) he (by omega) hct hkk a2 (fun row hrow => ?_)
      refine sy_examine (w := kn_w g ch e) ht (by omega) (fun i hi => ⟨hrow i hi, hrn i hi⟩) m2 m1 m3 m4 m5 m6 (fun f sh en lk x _ hx hm => ?_)
      have h' := h x hm (nI (c e)) f row en lk sh
      show (lk 0 < 100000 → _) ∧ _
      rw [hx]
      exact h'
    refine ⟨ve, ?_⟩
    rw [nb_cl (by omega), hct]
    refine sx_afterKids (fr := 0) (to := c e) (g := g) (ch := ch) (by omega) he (by omega) (by omega) hkk a2 ⟨32, ?_⟩
    refine sx_mis32 (u := dp_sl (kn_w g ch e) (c e - 0) 0) ht (dp_N hrn _ 0 (by omega)) m7 (fun m hm hv hn => ?_) (fun hn => ?_) 31 0 (by omega) (fun m' hm' => by omega)
    · refine Y0 (fun x hx yrowLength yfirst yrow yends ylack yshortest => ?_)
      rcases hx with ⟨⟨v, lv, hv'⟩, h30, hmin⟩ | ⟨_, hno⟩
      · have e1 : x = m := by
          have q1 := hmin m (by obtain ⟨v, lv, hv⟩ := hv; exact ⟨v, lv, hv⟩)
          rcases Nat.lt_or_ge x m with q | q
          · exact absurd ⟨v, lv, hv'⟩ (hn x q)
          · omega
        exact br_t (nI_lt (b := 100000) (by omega) (by omega)) ⟨by rw [e1], i_mk hD hT hM hE⟩
      · obtain ⟨v, lv, hv⟩ := hv
        exact absurd ⟨v, lv, hv⟩ (hno m)
    · refine Y0 (fun x hx yrowLength yfirst yrow yends ylack yshortest => ?_)
      rcases hx with ⟨⟨v, lv, hv'⟩, h30, hmin⟩ | ⟨hx0, hno⟩
      · exact absurd ⟨v, lv, hv'⟩ (hn x (by omega))
      · exact br_f (by rw [hx0]; decide) ⟨rfl, i_mk hD hT hM hE⟩
