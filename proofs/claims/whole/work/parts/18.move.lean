/-! ===== within and below, move ===== -/
theorem tr_up {us : Nat → Prop} {po : Nat → Option Nat} {c : Nat → Nat} {ch : Nat → Nat → Nat} {rk : Nat → Nat} (h : tr_I us po c ch rk) {x p : Nat} (hx : us x) (hp : po x = some p) : us p ∧ rk p < rk x ∧ ∃ k, k < c p ∧ ch p k = x := by
  obtain ⟨hF, t2, t3, t4⟩ := h
  rcases t2 x hx with e | ⟨q, k, b1, b2, b3, b4⟩
  · rw [e] at hp hx
    rw [t4 hx] at hp
    cases hp
  · rw [b1] at hp
    have e : q = p := Option.some.inj hp
    subst e
    have := (hF.2.1 q k b2 b3).2.2
    rw [b4] at this
    exact ⟨b2, this, k, b3, b4⟩
theorem tr_B_up {po : Nat → Option Nat} {e x p : Nat} (hx : x ≠ e) (hp : po x = some p) : (∃ j, tr_B po e j x) ↔ ∃ j, tr_B po e j p := by
  constructor
  · rintro ⟨j, h⟩
    cases j with
    | zero => exact (hx h).elim
    | succ j =>
      rcases h with h | ⟨y, hy, h⟩
      · exact (hx h).elim
      · rw [hp] at hy
        rw [Option.some.inj hy]
        exact ⟨j, h⟩
  · rintro ⟨j, h⟩
    exact ⟨j + 1, Or.inr ⟨p, hp, h⟩⟩
theorem tr_B_no {po : Nat → Option Nat} {e x : Nat} (hx : x ≠ e) (hp : po x = none) : ¬ ∃ j, tr_B po e j x := by
  rintro ⟨j, h⟩
  cases j with
  | zero => exact hx h
  | succ j =>
    rcases h with h | ⟨y, hy, h⟩
    · exact hx h
    · rw [hp] at hy; cases hy
section
variable {drafted latestPlace positions fragments elementCount : Int32} {draftKind draftValue weights tokenAt fragmentBegin fragmentFirst fragmentLast fragmentEmpty reachedWith follow bearing accepting kindOfType leastOf greatestOf listedCount listedValue attributeUse attributeType typeOfName inUse nameOf parentOf kidCount kids hasValue valueOf hasAttribute attributeValue walked waiting : Nat → Int32} {yplace yroot yrowLength yfirst youts ytop : Int32} {ykind ywith ysize ysort ymany yuse ytypeOf yleast ygreatest ylisted ytypeOfName yused yvalued ygiven yname yparent ychildren ycount yrow yvalue yattributes yends ylack yshortest youtKind youtWith ywork yworkWith yweight yfollow yfirsts ylasts ybare ymet ynameAt ytokenAt ytodo : Nat → Int32}
theorem sx_with5 {post : Int32 → Prop} {iu : Nat → Int32} {po : Nat → Option Nat} {c : Nat → Nat} {ch : Nat → Nat → Nat} {rk : Nat → Nat} {e : Nat} (hI : tr_I (fun x => iu x ≠ 0) po c ch rk) (hpp : ∀ x, x < 24 → iu x ≠ 0 → parentOf x = rl_p (po x)) (he : e < 24) : ∀ (r x : Nat) (l : List Nat), rk x ≤ r → iu x ≠ 0 → l.Nodup → (∀ y, y ∈ l → iu y ≠ 0 ∧ rk x < rk y) → ((∃ j, tr_B po e j x) → post 1) → ((¬ ∃ j, tr_B po e j x) → post 0) → wX_isWithin_5 post (nI e) drafted latestPlace positions fragments elementCount draftKind draftValue weights tokenAt fragmentBegin fragmentFirst fragmentLast fragmentEmpty reachedWith follow bearing accepting kindOfType leastOf greatestOf listedCount listedValue attributeUse attributeType typeOfName inUse nameOf parentOf kidCount kids hasValue valueOf hasAttribute attributeValue walked waiting (r + 2) (nI x) (nI l.length) := by
  have lt24 := hI.1.1
  intro r
  induction r with
  | zero =>
    intro x l hr hx hl hm h1 h0
    have hx24 := lt24 x hx
    have hl24 : l.length < 24 := by
      have := tr_pig 24 (x :: l) (List.nodup_cons.mpr ⟨fun h => by have := (hm x h).2; omega, hl⟩) (fun y hy => by
        rcases List.mem_cons.mp hy with q | q
        · rw [q]; exact hx24
        · exact lt24 y (hm y q).1)
      rw [List.length_cons] at this
      omega
    refine br_f (nb_nm (by omega)) (br_f (nI_ge (b := 24) hl24 (by omega)) ?_)
    by_cases q : x = e
    · exact br_t (by rw [q]) (h1 ⟨0, q⟩)
    · refine br_f (fun h => q ((nI_eq (by omega) (by omega)).mp h)) ⟨vp_in_nI hx24 (by omega), nm_r (e' := rl_p (po x)) (by rw [nb_cl (by omega), hpp x hx24 hx]) (nm_e ?_)⟩
      cases hp : po x with
      | none => exact br_t rfl (h0 (tr_B_no q hp))
      | some p => have := (tr_up hI hx hp).2.1; omega
  | succ r ih =>
    intro x l hr hx hl hm h1 h0
    have hx24 := lt24 x hx
    have hnd : (x :: l).Nodup := List.nodup_cons.mpr ⟨fun h => by have := (hm x h).2; omega, hl⟩
    have hl24 : l.length < 24 := by
      have := tr_pig 24 (x :: l) hnd (fun y hy => by
        rcases List.mem_cons.mp hy with q | q
        · rw [q]; exact hx24
        · exact lt24 y (hm y q).1)
      rw [List.length_cons] at this
      omega
    refine br_f (nb_nm (by omega)) (br_f (nI_ge (b := 24) hl24 (by omega)) ?_)
    by_cases q : x = e
    · exact br_t (by rw [q]) (h1 ⟨0, q⟩)
    · refine br_f (fun h => q ((nI_eq (by omega) (by omega)).mp h)) ⟨vp_in_nI hx24 (by omega), nm_r (e' := rl_p (po x)) (by rw [nb_cl (by omega), hpp x hx24 hx]) (nm_r (nI_1 _) ?_)⟩
      cases hp : po x with
      | none => exact br_t rfl (h0 (tr_B_no q hp))
      | some p =>
        obtain ⟨up, hrp, _⟩ := tr_up hI hx hp
        have hb := tr_B_up q hp
        refine ih p (x :: l) (by omega) up hnd (fun y hy => ?_) (fun h => h1 (hb.mpr h)) (fun h => h0 (fun h' => h (hb.mp h')))
        rcases List.mem_cons.mp hy with q | q
        · rw [q]; exact ⟨hx, hrp⟩
        · obtain ⟨m1, m2⟩ := hm y q
          exact ⟨m1, by omega⟩
theorem sx_isWithin {post : Int32 → Prop} {iu : Nat → Int32} {po : Nat → Option Nat} {c : Nat → Nat} {ch : Nat → Nat → Nat} {rk : Nat → Nat} {e x : Nat} (hI : tr_I (fun x => iu x ≠ 0) po c ch rk) (hpp : ∀ x, x < 24 → iu x ≠ 0 → parentOf x = rl_p (po x)) (he : e < 24) (hx : iu x ≠ 0) (h1 : (∃ j, tr_B po e j x) → post 1) (h0 : (¬ ∃ j, tr_B po e j x) → post 0) : wpX_isWithin post (drafted, latestPlace, positions, fragments, elementCount, draftKind, draftValue, weights, tokenAt, fragmentBegin, fragmentFirst, fragmentLast, fragmentEmpty, reachedWith, follow, bearing, accepting, kindOfType, leastOf, greatestOf, listedCount, listedValue, attributeUse, attributeType, typeOfName, inUse, nameOf, parentOf, kidCount, kids, hasValue, valueOf, hasAttribute, attributeValue, walked, waiting) (nI x) (nI e) :=
  ⟨rk x + 2, sx_with5 hI hpp he (rk x) x [] (Nat.le_refl _) hx List.nodup_nil (fun y hy => by cases hy) h1 h0⟩
theorem sy_below2 {post : Int32 → Prop} {iu : Nat → Int32} {po : Nat → Option Nat} {c : Nat → Nat} {ch : Nat → Nat → Nat} {rk : Nat → Nat} {e : Nat} (hI : tr_I (fun x => iu x ≠ 0) po c ch rk) (hpp : ∀ x, x < 24 → iu x ≠ 0 → yparent x = rl_p (po x)) (he : e < 24) : ∀ r x, rk x ≤ r → iu x ≠ 0 → ((∃ j, tr_B po e j x) → post 1) → ((¬ ∃ j, tr_B po e j x) → post 0) → wY_below_2 post (nI e) yplace yroot yrowLength yfirst youts ytop ykind ywith ysize ysort ymany yuse ytypeOf yleast ygreatest ylisted ytypeOfName yused yvalued ygiven yname yparent ychildren ycount yrow yvalue yattributes yends ylack yshortest youtKind youtWith ywork yworkWith yweight yfollow yfirsts ylasts ybare ymet ynameAt ytokenAt ytodo (r + 2) (nI x) := by
  have lt24 := hI.1.1
  intro r
  induction r with
  | zero =>
    intro x hr hx h1 h0
    have hx24 := lt24 x hx
    refine br_f (nI_pos (by omega)) ?_
    by_cases q : x = e
    · exact br_t (by rw [q]) (br_t (by rw [q]) (h1 ⟨0, q⟩))
    · have q' : ¬ nI x = nI e := fun h => q ((nI_eq (by omega) (by omega)).mp h)
      refine br_f q' ⟨vp_in_nI hx24 (by omega), nm_r (e' := rl_p (po x)) (by rw [nb_cl (by omega), hpp x hx24 hx]) ?_⟩
      cases hp : po x with
      | none => exact br_t (by decide) (br_f (fun h => nb_nm (by omega) h.symm) (h0 (tr_B_no q hp)))
      | some p => have := (tr_up hI hx hp).2.1; omega
  | succ r ih =>
    intro x hr hx h1 h0
    have hx24 := lt24 x hx
    refine br_f (nI_pos (by omega)) ?_
    by_cases q : x = e
    · exact br_t (by rw [q]) (br_t (by rw [q]) (h1 ⟨0, q⟩))
    · have q' : ¬ nI x = nI e := fun h => q ((nI_eq (by omega) (by omega)).mp h)
      refine br_f q' ⟨vp_in_nI hx24 (by omega), nm_r (e' := rl_p (po x)) (by rw [nb_cl (by omega), hpp x hx24 hx]) ?_⟩
      cases hp : po x with
      | none => exact br_t (by decide) (br_f (fun h => nb_nm (by omega) h.symm) (h0 (tr_B_no q hp)))
      | some p =>
        obtain ⟨up, hrp, _⟩ := tr_up hI hx hp
        have hb := tr_B_up q hp
        exact ih p (by omega) up (fun h => h1 (hb.mpr h)) (fun h => h0 (fun h' => h (hb.mp h')))
theorem sy_below {post : Int32 → Prop} {iu : Nat → Int32} {po : Nat → Option Nat} {c : Nat → Nat} {ch : Nat → Nat → Nat} {rk : Nat → Nat} {e x : Nat} (hI : tr_I (fun x => iu x ≠ 0) po c ch rk) (hpp : ∀ x, x < 24 → iu x ≠ 0 → yparent x = rl_p (po x)) (he : e < 24) (hx : iu x ≠ 0) (h1 : (∃ j, tr_B po e j x) → post 1) (h0 : (¬ ∃ j, tr_B po e j x) → post 0) : wpY_below post (yplace, yroot, yrowLength, yfirst, youts, ytop, ykind, ywith, ysize, ysort, ymany, yuse, ytypeOf, yleast, ygreatest, ylisted, ytypeOfName, yused, yvalued, ygiven, yname, yparent, ychildren, ycount, yrow, yvalue, yattributes, yends, ylack, yshortest, youtKind, youtWith, ywork, yworkWith, yweight, yfollow, yfirsts, ylasts, ybare, ymet, ynameAt, ytokenAt, ytodo) (nI x) (nI e) :=
  ⟨rk x + 2, sy_below2 hI hpp he (rk x) x (Nat.le_refl _) hx h1 h0⟩
end
noncomputable def tr_rk (po : Nat → Option Nat) (e d : Nat) (rk : Nat → Nat) (x : Nat) : Nat := @ite Nat (∃ j, tr_B po e j x) (Classical.propDecidable _) (rk x + d) (rk x)
theorem tr_rk_t {po : Nat → Option Nat} {e d : Nat} {rk : Nat → Nat} {x : Nat} (h : ∃ j, tr_B po e j x) : tr_rk po e d rk x = rk x + d := @if_pos _ (Classical.propDecidable _) h _ _ _
theorem tr_rk_f {po : Nat → Option Nat} {e d : Nat} {rk : Nat → Nat} {x : Nat} (h : ¬ ∃ j, tr_B po e j x) : tr_rk po e d rk x = rk x := @if_neg _ (Classical.propDecidable _) h _ _ _
/-- a kid at a place: by its number alone -/
theorem rl_kid {iu kc : Nat → Int32} {po : Nat → Option Nat} {c : Nat → Nat} {ch : Nat → Nat → Nat} {rk : Nat → Nat} {q s e : Nat} (hF : tr_F (fun x => iu x ≠ 0) po c ch rk) (a4 : ∀ e k, e < 24 → iu e ≠ 0 → k < c e → kc (24 * e + k) = nI (ch e k)) (hq : iu q ≠ 0) (hs : s < c q) (he : ch q s = e) : ∀ i, i < c q → (kc (24 * q + i) = nI e ↔ i = s) := by
  intro i hi
  have l1 := hF.1 _ (hF.2.1 q i hq hi).1
  have l2 := hF.1 _ (hF.2.1 q s hq hs).1
  rw [he] at l2
  rw [a4 q i (hF.1 q hq) hq hi, nI_eq (by omega) (by omega)]
  constructor
  · intro h; exact hF.2.2 q i s hq hi hs (h.trans he.symm)
  · intro h; rw [h, he]
theorem rl_E_mov {ec root : Int32} {iu nm pp ct kc yp : Nat → Int32} {e q s p k : Nat} {po : Nat → Option Nat} {c : Nat → Nat} {ch : Nat → Nat → Nat} {g rk : Nat → Nat} (hec : ec = nI (tr_cn iu 24)) (hroot : root = (if iu 0 = 0 then -1 else 0)) (h3 : ∀ j, j < 600 → vp_nar .byte (kc j) = kc j) (hE : rl_E1 iu nm pp ct kc yp po c ch g rk) (he : e < 24) (hu : iu e ≠ 0) (hq : po e = some q) (hs : s < c q) (hch : ch q s = e) (hp : p < 24) (hup : iu p ≠ 0) (hB : ¬ ∃ j, tr_B po e j p) (hk : k ≤ tr_dc c q p) :
    rl_E ec root iu nm (upd (upd pp e (-1)) e (nI p)) (upd (upd ct q (nI (c q - 1))) p (nI (tr_dc c q p + 1))) (kp_ins (kp_del kc q s (c q)) p (tr_dc c q p) k (nI e)) (upd yp e (nI p)) := by
  obtain ⟨a1, a2, a3, a4, a5⟩ := hE
  have hI := a5
  obtain ⟨hF, t2, t3, t4⟩ := a5
  obtain ⟨uq, rq, _⟩ := tr_up hI hu hq
  have hq24 := hF.1 q uq
  have hep : e ≠ p := fun h => hB ⟨0, h.symm⟩
  have e0 : e ≠ 0 := by
    intro h
    rw [h] at hq hu
    rw [t4 hu] at hq
    cases hq
  have hD := tr_del (q := q) (s := s) hF
  have hno := tr_del_no hF uq hs hch
  have hc23 : ∀ x, x < 24 → iu x ≠ 0 → tr_dc c q x ≤ 23 := fun x _ hx => tr_F_c hD hx
  have hN := tr_ins (us' := fun x => iu x ≠ 0) (po' := ft_u po e (some p)) (rk' := tr_rk po e (rk p + 1) rk) (k := k) hD hup he hno (fun x => ⟨Or.inl, fun h => h.elim id (fun h => by rw [h]; exact hu)⟩) (fun x h => ft_n h) ft_s hk (fun h => absurd hu h) hep
    (fun x i hx hi => by
      obtain ⟨_, f2, f3⟩ := hD.2.1 x i hx hi
      have hb := tr_B_up (e := e) (hno x i hx hi) f2
      by_cases h : ∃ j, tr_B po e j x
      · rw [tr_rk_t h, tr_rk_t (hb.mpr h)]; omega
      · rw [tr_rk_f h, tr_rk_f (fun h' => h (hb.mp h'))]; exact f3)
    (by rw [tr_rk_f hB, tr_rk_t ⟨0, rfl⟩]; omega)
  refine ⟨hec, hroot, kp_ins_b (kp_del_b h3 (by have := tr_F_c hF uq; omega)) (nb_vb (by omega)), ft_u po e (some p), tr_ic (tr_dc c q) p, tr_ik (tr_dk ch q s) p k e, g, tr_rk po e (rk p + 1) rk, a1, a2, fun x hx hux => ?_, ?_, hN, fun x hx => ?_, t3, fun h => by rw [ft_n (Ne.symm e0)]; exact t4 h⟩
  · obtain ⟨b1, b2, b3⟩ := a3 x hx hux
    have b1' : upd ct q (nI (c q - 1)) x = nI (tr_dc c q x) := by
      unfold tr_dc
      by_cases r : x = q
      · rw [r, pk_us, if_pos rfl]
      · rw [pk_un r, if_neg r]; exact b1
    refine ⟨?_, ?_, ?_⟩
    · unfold tr_ic
      by_cases r : x = p
      · rw [r, pk_us, if_pos rfl]
      · rw [pk_un r, if_neg r]; exact b1'
    · by_cases r : x = e
      · rw [r, pk_us, ft_s]; rfl
      · rw [pk_un r, pk_un r, ft_n r]; exact b2
    · by_cases r : x = e
      · rw [r, pk_us, ft_s]; rfl
      · rw [pk_un r, ft_n r]; exact b3
  · exact kp_ins_ok (iu := iu) (iu' := iu) (kp_del_ok a4 (fun x _ hx => tr_F_c hF hx) hq24 uq) (hc23 p hp hup) hk (fun x _ h => Or.inl h) hc23 hp hep
  · by_cases r : x = e
    · rw [r]
      exact Or.inr (tr_PK_e hup ft_s hk)
    · rcases t2 x hx with h | h
      · exact Or.inl h
      · exact Or.inr (tr_PK_ins (us := fun x => iu x ≠ 0) (fun y hy => hy) (ft_n r) hk (tr_PK_del hs hch r h))
theorem i_vc_move {k : Nat} {u : SX} {v : SY} (I : i_Rel k u v) (hk : k + 5 ≤ 2560) (v1 : Int32) (v2 : Int32) (v3 : Int32) : wpX_move (fun r u' => wpY_move (fun r' v' => r' = r ∧ i_Rel (k + 5) u' v') v v1 v2 v3) u v1 v2 v3 := by
  refine i_el I (P := fun u v => wpX_move (fun r u' => wpY_move (fun r' v' => r' = r ∧ i_Rel (k + 5) u' v') v v1 v2 v3) u v1 v2 v3) ?_
  intro d latestPlace positions fragments elementCount draftKind draftValue weights tokenAt fragmentBegin fragmentFirst fragmentLast fragmentEmpty reachedWith follow bearing accepting kindOfType leastOf greatestOf listedCount listedValue attributeUse attributeType typeOfName inUse nameOf parentOf kidCount kids hasValue valueOf hasAttribute attributeValue walked waiting yroot yrowLength yfirst youts ytop ykind ywith ysize yparent yrow yends ylack yshortest youtKind youtWith ywork yworkWith yweight yfollow yfirsts ylasts ybare ymet ynameAt ytokenAt ytodo hD hT hM hE
  unfold wpX_move
  have hE' := hE
  obtain ⟨hec, hroot, hb, po, c, ch, g, rk, hE1⟩ := hE'
  have hI := hE1.2.2.2.2
  rcases el_cs inUse v1 with hv | ⟨e, he, rfl, hu⟩
  · refine sx_elem0 hv ?_
    refine br_t rfl ?_
    try unfold wpY_move
    refine sy_no1 hv ?_
    refine br_f nb_10 ?_
    exact ⟨rfl, i_mk hD hT hM hE⟩
  · refine sx_elem1 he hu ?_
    refine br_f nb_10 ?_
    rcases el_cs inUse v2 with hv | ⟨p, hp, rfl, hup⟩
    · refine sx_elem0 hv ?_
      refine br_t rfl ?_
      try unfold wpY_move
      refine sy_no0 he hu ?_
      refine br_t rfl ?_
      refine sy_no1 hv ?_
      refine br_f nb_10 ?_
      exact ⟨rfl, i_mk hD hT hM hE⟩
    · refine sx_elem1 hp hup ?_
      refine br_f nb_10 ?_
      have hX : ∀ x, x < 24 → inUse x ≠ 0 → parentOf x = rl_p (po x) := fun x h1 h2 => (hE1.2.2.1 x h1 h2).2.1
      have hY : ∀ x, x < 24 → inUse x ≠ 0 → yparent x = rl_p (po x) := fun x h1 h2 => (hE1.2.2.1 x h1 h2).2.2
      refine sx_isWithin hI hX he hup (fun hB => ?_) (fun hB => ?_)
      · refine br_f nb_10 ?_
        unfold wpY_move
        refine sy_no0 he hu ?_
        refine br_t rfl ?_
        refine sy_no0 hp hup ?_
        refine br_t rfl ?_
        exact sy_below hI hY he hup (fun _ => br_f nb_10 ⟨rfl, i_mk hD hT hM hE⟩) (fun h => absurd hB h)
      · have hep : e ≠ p := fun h => hB ⟨0, h.symm⟩
        have e0 : ∃ q, po e = some q := by
          rcases hI.2.1 e hu with h | ⟨q, _, h, _⟩
          · exfalso
            -- every element is below the root
            have all : ∀ r x, rk x ≤ r → inUse x ≠ 0 → ∃ j, tr_B po 0 j x := by
              intro r
              induction r with
              | zero =>
                intro x hr hx
                rcases hI.2.1 x hx with h | ⟨y, i, h1, h2, h3, h4⟩
                · exact ⟨0, h⟩
                · have := (tr_up hI hx h1).2.1; omega
              | succ r ih =>
                intro x hr hx
                rcases hI.2.1 x hx with h | ⟨y, i, h1, h2, h3, h4⟩
                · exact ⟨0, h⟩
                · have h5 := (tr_up hI hx h1).2.1
                  obtain ⟨j, hj⟩ := ih y (by omega) h2
                  exact ⟨j + 1, Or.inr ⟨y, h1, hj⟩⟩
            rw [h] at hB
            exact hB (all (rk p) p (Nat.le_refl _) hup)
          · exact ⟨q, h⟩
        obtain ⟨q, hq⟩ := e0
        obtain ⟨uq, rq, s, hs, hch⟩ := tr_up hI hu hq
        have hq24 := hI.1.1 q uq
        have ee : (nI e).toNatClampNeg = e := nb_cl (by omega)
        have ep : (nI p).toNatClampNeg = p := nb_cl (by omega)
        have ve : vp_in (nI e) 24 := vp_in_nI he (by omega)
        have vp : vp_in (nI p) 24 := vp_in_nI hp (by omega)
        have eX : parentOf (nI e).toNatClampNeg = nI q := by rw [ee, hX e he hu, hq]; rfl
        have eY : yparent (nI e).toNatClampNeg = nI q := by rw [ee, hY e he hu, hq]; rfl
        have cp : kidCount p = nI (c p) := (hE1.2.2.1 p hp hup).1
        have cq : kidCount q = nI (c q) := (hE1.2.2.1 q hq24 uq).1
        have hp23 := tr_F_c hI.1 hup
        have hq23 := tr_F_c hI.1 uq
        have hd23 := tr_F_c (tr_del (q := q) (s := s) hI.1) hup
        have hkid := rl_kid hI.1 hE1.2.2.2.1 uq hs hch
        have oX : ∀ {P : Int32 → Prop}, P (nI (tr_dc c q p)) → ((nI q = nI p → vp_in (nI p) 24 ∧ P (kidCount (nI p).toNatClampNeg - 1)) ∧ (¬ nI q = nI p → vp_in (nI p) 24 ∧ P (kidCount (nI p).toNatClampNeg))) := by
          intro P h
          rw [ep, cp]
          by_cases r : p = q
          · refine br_t (by rw [r]) ⟨vp, ?_⟩
            unfold tr_dc at h
            rw [if_pos r, ← r] at h
            rw [nb_s1 (by rw [r]; omega)]
            exact h
          · refine br_f (fun h => r ((nI_eq (by omega) (by omega)).mp h).symm) ⟨vp, ?_⟩
            unfold tr_dc at h
            rw [if_neg r] at h
            exact h
        have yM : ∀ {post : Int32 → SY → Prop}, wY_move_54 post (nI e) (nI p) v3 (nI (tr_dc c q p)) latestPlace yroot yrowLength yfirst youts ytop ykind ywith ysize kindOfType listedCount attributeUse attributeType leastOf greatestOf listedValue typeOfName inUse hasValue hasAttribute nameOf yparent kids kidCount yrow valueOf attributeValue yends ylack yshortest youtKind youtWith ywork yworkWith yweight yfollow yfirsts ylasts ybare ymet ynameAt ytokenAt ytodo → wpY_move post (latestPlace, yroot, yrowLength, yfirst, youts, ytop, ykind, ywith, ysize, kindOfType, listedCount, attributeUse, attributeType, leastOf, greatestOf, listedValue, typeOfName, inUse, hasValue, hasAttribute, nameOf, yparent, kids, kidCount, yrow, valueOf, attributeValue, yends, ylack, yshortest, youtKind, youtWith, ywork, yworkWith, yweight, yfollow, yfirsts, ylasts, ybare, ymet, ynameAt, ytokenAt, ytodo) (nI e) (nI p) v3 := by
          intro post h
          try unfold wpY_move
          refine sy_no0 he hu ?_
          refine br_t rfl ?_
          refine sy_no0 hp hup ?_
          refine br_t rfl ?_
          refine sy_below hI hY he hup (fun h' => absurd h' hB) (fun _ => br_t rfl ⟨ve, ?_⟩)
          show (yparent (nI e).toNatClampNeg = nI p → _) ∧ _
          rw [eY]
          exact oX (P := fun z => wY_move_54 post (nI e) (nI p) v3 z latestPlace yroot yrowLength yfirst youts ytop ykind ywith ysize kindOfType listedCount attributeUse attributeType leastOf greatestOf listedValue typeOfName inUse hasValue hasAttribute nameOf yparent kids kidCount yrow valueOf attributeValue yends ylack yshortest youtKind youtWith ywork yworkWith yweight yfollow yfirsts ylasts ybare ymet ynameAt ytokenAt ytodo) h
        refine br_t rfl ⟨ve, ?_⟩
        show (parentOf (nI e).toNatClampNeg = nI p → _) ∧ _
        rw [eX]
        refine oX (P := fun z => wX_move_54 _ (nI e) (nI p) v3 z (nI d) latestPlace positions fragments elementCount draftKind draftValue weights tokenAt fragmentBegin fragmentFirst fragmentLast fragmentEmpty reachedWith follow bearing accepting kindOfType leastOf greatestOf listedCount listedValue attributeUse attributeType typeOfName inUse nameOf parentOf kidCount kids hasValue valueOf hasAttribute attributeValue walked waiting) ?_
        by_cases h0 : v3 < 0
        · exact br_t h0 (yM (br_t h0 ⟨rfl, i_mk hD hT hM hE⟩))
        · obtain ⟨i, hi, rfl⟩ := nI_of h0
          refine br_f h0 ?_
          by_cases hle : i ≤ tr_dc c q p
          · refine br_t (nI_le hle (by omega)) ?_
            have ct' : upd kidCount q (nI (c q - 1)) p = nI (tr_dc c q p) := by
              unfold tr_dc
              by_cases r : p = q
              · rw [r, pk_us, if_pos rfl]
              · rw [pk_un r, if_neg r]; exact cp
            refine sx_detach (e := e) hq24 he hq23 hs (by rw [hX e he hu, hq]; rfl) cq hkid ?_
            refine sx_attach (e := e) (p := p) (k := i) (kids := kp_del kids q s (c q)) (kidCount := upd kidCount q (nI (c q - 1))) (parentOf := upd parentOf e (-1)) hp he hd23 hle ct' ?_
            refine yM ?_
            refine br_f h0 (br_t (nI_le hle (by omega)) ?_)
            refine sy_take (e := e) hq24 he hq23 hs (by rw [hY e he hu, hq]; rfl) cq hb hkid ?_
            refine sy_put (e := e) (p := p) (k := i) (ychildren := kp_del kids q s (c q)) (ycount := upd kidCount q (nI (c q - 1))) hp he hd23 hle ct' (kp_del_b hb (by omega)) ?_
            exact ⟨rfl, i_mk hD hT hM (rl_E_mov hec hroot hb hE1 he hu hq hs hch hp hup hB hle)⟩
          · have nle : ¬ nI i ≤ nI (tr_dc c q p) := nI_ge (by omega) hi
            exact br_f nle (yM (br_f h0 (br_f nle ⟨rfl, i_mk hD hT hM hE⟩)))
