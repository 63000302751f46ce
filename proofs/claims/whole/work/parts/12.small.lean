/-! ===== the beginning; token, place, simple, listed, attribute.., element ===== -/
section
variable {drafted latestPlace positions fragments elementCount : Int32} {draftKind draftValue weights tokenAt fragmentBegin fragmentFirst fragmentLast fragmentEmpty reachedWith follow bearing accepting kindOfType leastOf greatestOf listedCount listedValue attributeUse attributeType typeOfName inUse nameOf parentOf kidCount kids hasValue valueOf hasAttribute attributeValue walked waiting : Nat → Int32} {yplace yroot yrowLength yfirst youts ytop : Int32} {ykind ywith ysize ysort ymany yuse ytypeOf yleast ygreatest ylisted ytypeOfName yused yvalued ygiven yname yparent ychildren ycount yrow yvalue yattributes yends ylack yshortest youtKind youtWith ywork yworkWith yweight yfollow yfirsts ylasts ybare ymet ynameAt ytokenAt ytodo : Nat → Int32}
theorem sx_token {post : Int32 → SX → Prop} {d : Nat} {k v : Int32} (hd : d ≤ 16) (h0 : d = 16 ∨ ¬ tk_ok k v → post 0 (nI d, latestPlace, positions, fragments, elementCount, draftKind, draftValue, weights, tokenAt, fragmentBegin, fragmentFirst, fragmentLast, fragmentEmpty, reachedWith, follow, bearing, accepting, kindOfType, leastOf, greatestOf, listedCount, listedValue, attributeUse, attributeType, typeOfName, inUse, nameOf, parentOf, kidCount, kids, hasValue, valueOf, hasAttribute, attributeValue, walked, waiting)) (h1 : d < 16 → tk_ok k v → post 1 (nI (d + 1), latestPlace, positions, fragments, elementCount, upd draftKind d k, upd draftValue d v, weights, tokenAt, fragmentBegin, fragmentFirst, fragmentLast, fragmentEmpty, reachedWith, follow, bearing, accepting, kindOfType, leastOf, greatestOf, listedCount, listedValue, attributeUse, attributeType, typeOfName, inUse, nameOf, parentOf, kidCount, kids, hasValue, valueOf, hasAttribute, attributeValue, walked, waiting)) : wpX_token post (nI d, latestPlace, positions, fragments, elementCount, draftKind, draftValue, weights, tokenAt, fragmentBegin, fragmentFirst, fragmentLast, fragmentEmpty, reachedWith, follow, bearing, accepting, kindOfType, leastOf, greatestOf, listedCount, listedValue, attributeUse, attributeType, typeOfName, inUse, nameOf, parentOf, kidCount, kids, hasValue, valueOf, hasAttribute, attributeValue, walked, waiting) k v := by
  refine pk_le 16 d (fun h => h0 (Or.inl (by omega))) (fun h => ?_)
  refine sx_isToken (fun hk => ?_) (fun hk => br_t rfl (h0 (Or.inr hk)))
  exact br_f nb_10 ⟨vp_in_nI h (by omega), nm_r (by rw [nb_cl (by omega)]) ⟨vp_in_nI h (by omega), nm_r (by rw [nb_cl (by omega)]) (nm_r (nI_1 d) (h1 h hk))⟩⟩
theorem sy_tok68 {post : Int32 → SY → Prop} {d c : Nat} {v : Int32} (hs : ysize 6 = nI d) (hd : d < 16) (hc : c < 9) (hv : c = 0 ∨ c = 8 → ∃ j, j < 128 ∧ v = nI j) (h1 : post 1 (yplace, yroot, yrowLength, yfirst, youts, ytop, upd ykind (96 + d) (nI c), upd ywith (96 + d) (if c = 0 ∨ c = 8 then v else 0), upd ysize 6 (nI (d + 1)), ysort, ymany, yuse, ytypeOf, yleast, ygreatest, ylisted, ytypeOfName, yused, yvalued, ygiven, yname, yparent, ychildren, ycount, yrow, yvalue, yattributes, yends, ylack, yshortest, youtKind, youtWith, ywork, yworkWith, yweight, yfollow, yfirsts, ylasts, ybare, ymet, ynameAt, ytokenAt, ytodo)) : wY_token_68 post (nI c) v yplace yroot yrowLength yfirst youts ytop ykind ywith ysize ysort ymany yuse ytypeOf yleast ygreatest ylisted ytypeOfName yused yvalued ygiven yname yparent ychildren ycount yrow yvalue yattributes yends ylack yshortest youtKind youtWith ywork yworkWith yweight yfollow yfirsts ylasts ybare ymet ynameAt ytokenAt ytodo := by
  have e1 : vp_nar .byte ((ysize 6 + 1).toInt8.toInt32) = nI (d + 1) := by rw [hs, nI_1, nb_v8 (by omega)]
  have e2 : 96 + ysize 6 = nI (96 + d) := by rw [hs]; exact nI_add 96 d
  have e3 : vp_in (nI (96 + d)) 112 := vp_in_nI (by omega) (by omega)
  have e4 : vp_nar .byte (nI c).toInt8.toInt32 = nI c := nb_v8 (by omega)
  refine nm_r (by rw [e1]) (nm_r e2 ⟨e3, nm_r (by rw [nb_cl (by omega), e4]) ?_⟩)
  by_cases c0 : c = 0
  · obtain ⟨j, hj, rfl⟩ := hv (Or.inl c0)
    refine br_t (by rw [c0]; rfl) ⟨e3, nm_r (by rw [nb_cl (by omega), nb_v8 hj]) ?_⟩
    rw [if_pos (Or.inl c0)] at h1
    exact h1
  · refine br_f (nI_ne0 (by omega) (by omega)) ?_
    by_cases c8 : c = 8
    · obtain ⟨j, hj, rfl⟩ := hv (Or.inr c8)
      refine br_t (by rw [c8]; rfl) ⟨e3, nm_r (by rw [nb_cl (by omega), nb_v8 hj]) ?_⟩
      rw [if_pos (Or.inr c8)] at h1
      exact h1
    · refine br_f (fun e => c8 ((nI_eq (b := 8) (by omega) (by omega)).mp e)) ⟨e3, nm_r (by rw [nb_cl (by omega), nb_z8]) ?_⟩
      rw [if_neg (by omega)] at h1
      exact h1
theorem sy_token {post : Int32 → SY → Prop} {d : Nat} {k v : Int32} (hs : ysize 6 = nI d) (hd : d ≤ 16) (h0 : d = 16 ∨ ¬ tk_ok k v → post 0 (yplace, yroot, yrowLength, yfirst, youts, ytop, ykind, ywith, ysize, ysort, ymany, yuse, ytypeOf, yleast, ygreatest, ylisted, ytypeOfName, yused, yvalued, ygiven, yname, yparent, ychildren, ycount, yrow, yvalue, yattributes, yends, ylack, yshortest, youtKind, youtWith, ywork, yworkWith, yweight, yfollow, yfirsts, ylasts, ybare, ymet, ynameAt, ytokenAt, ytodo)) (h1 : d < 16 → tk_ok k v → ∀ c, c < 9 → k = nI c → post 1 (yplace, yroot, yrowLength, yfirst, youts, ytop, upd ykind (96 + d) (nI c), upd ywith (96 + d) (if c = 0 ∨ c = 8 then v else 0), upd ysize 6 (nI (d + 1)), ysort, ymany, yuse, ytypeOf, yleast, ygreatest, ylisted, ytypeOfName, yused, yvalued, ygiven, yname, yparent, ychildren, ycount, yrow, yvalue, yattributes, yends, ylack, yshortest, youtKind, youtWith, ywork, yworkWith, yweight, yfollow, yfirsts, ylasts, ybare, ymet, ynameAt, ytokenAt, ytodo)) : wpY_token post (yplace, yroot, yrowLength, yfirst, youts, ytop, ykind, ywith, ysize, ysort, ymany, yuse, ytypeOf, yleast, ygreatest, ylisted, ytypeOfName, yused, yvalued, ygiven, yname, yparent, ychildren, ycount, yrow, yvalue, yattributes, yends, ylack, yshortest, youtKind, youtWith, ywork, yworkWith, yweight, yfollow, yfirsts, ylasts, ybare, ymet, ynameAt, ytokenAt, ytodo) k v := by
  unfold wpY_token
  rcases nb_ix k 9 (by omega) with hk | ⟨c, hc, rfl⟩
  · refine sy_out1 (n := 9) (by omega) hk ?_
    refine br_f nb_10 ?_
    exact h0 (Or.inr (tk_no hk))
  · refine sy_out0 (n := 9) (by omega) hc ?_
    refine br_t rfl ?_
    refine pk_eq d 16 (fun h => h0 (Or.inl h)) (fun h => ?_) hs
    have hd' : d < 16 := by omega
    by_cases c0 : c = 0
    · subst c0
      refine br_t rfl ?_
      rcases nb_ix v 6 (by omega) with hv | ⟨j, hj, rfl⟩
      · refine sy_out1 (n := 6) (by omega) hv ?_
        refine br_f nb_10 ?_
        refine h0 (Or.inr ?_)
        rintro (⟨_, j, hj, rfl⟩ | ⟨e, _⟩ | ⟨j, hj, hj2, e⟩)
        · rcases hv with hv | hv
          · exact nI_pos (by omega) hv
          · exact nI_ge (b := 6) hj (by omega) hv
        · exact absurd e (by decide)
        · have e' := (nI_eq (by omega) (by omega)).mp e
          omega
      · refine sy_out0 (n := 6) (by omega) hj ?_
        refine br_t rfl ?_
        refine br_f (by decide) ?_
        exact sy_tok68 hs hd' (by omega) (fun _ => ⟨j, by omega, rfl⟩) (h1 hd' (Or.inl ⟨rfl, j, hj, rfl⟩) 0 (by omega) rfl)
    · refine br_f (nI_ne0 (by omega) (by omega)) ?_
      by_cases c8 : c = 8
      · subst c8
        refine br_t rfl ?_
        have no : (∀ j, j < 16 → v = nI j → j / 4 ≤ j % 4 → 1 ≤ j % 4 → False) → ¬ tk_ok (nI 8) v := by
          intro h
          rintro (⟨e, _⟩ | ⟨_, j, a1, a2, a3, a4⟩ | ⟨j, a1, a2, e⟩)
          · exact nI_ne0 (n := 8) (by omega) (by omega) e
          · exact h j a1 a2 a3 a4
          · have e' := (nI_eq (by omega) (by omega)).mp e
            omega
        rcases nb_ix v 16 (by omega) with hv | ⟨j, hj, rfl⟩
        · refine sy_out1 (n := 16) (by omega) hv ?_
          refine br_f nb_10 ?_
          refine h0 (Or.inr (no ?_))
          rintro j a1 rfl _ _
          rcases hv with hv | hv
          · exact nI_pos (by omega) hv
          · exact nI_ge (b := 16) a1 (by omega) hv
        · have no' : (j / 4 ≤ j % 4 → 1 ≤ j % 4 → False) → ¬ tk_ok (nI 8) (nI j) := by
            intro h
            refine no ?_
            intro i a1 a2 a3 a4
            obtain rfl := (nI_eq (by omega) (by omega)).mp a2
            exact h a3 a4
          refine sy_out0 (n := 16) (by omega) hj ?_
          refine br_t rfl ?_
          refine pk_eq (j % 4) 0 (fun h => h0 (Or.inr (no' (fun _ _ => by omega)))) (fun h => ?_) (tk_an (by omega))
          refine pk_le (j / 4) (j % 4) (fun h2 => ?_) (fun h2 => h0 (Or.inr (no' (fun _ _ => by omega)))) (tk_sh (by omega)) (tk_an (by omega))
          exact sy_tok68 hs hd' (by omega) (fun _ => ⟨j, by omega, rfl⟩) (h1 hd' (Or.inr (Or.inl ⟨rfl, j, hj, rfl, h2, by omega⟩)) 8 (by omega) rfl)
      · refine br_f (fun e => c8 ((nI_eq (b := 8) (by omega) (by omega)).mp e)) ?_
        exact sy_tok68 hs hd' hc (fun h => by omega) (h1 hd' (Or.inr (Or.inr ⟨c, by omega, by omega, rfl⟩)) c hc rfl)
end
theorem rl_D_add {d c : Nat} {dk dv yk yw ys : Nat → Int32} {v : Int32} (h : rl_D d dk dv yk yw ys) (hd : d < 16) (hc : c < 9) (hk : tk_ok (nI c) v) : rl_D (d + 1) (upd dk d (nI c)) (upd dv d v) (upd yk (96 + d) (nI c)) (upd yw (96 + d) (if c = 0 ∨ c = 8 then v else 0)) (upd ys 6 (nI (d + 1))) := by
  obtain ⟨_, _, kd, vl, hK, hX⟩ := h
  have hv : ∃ w, (c = 0 → w < 6 ∧ v = nI w) ∧ (c = 8 → w < 16 ∧ v = nI w ∧ w / 4 ≤ w % 4 ∧ 1 ≤ w % 4) := by
    rcases hk with ⟨e, j, a1, a2⟩ | ⟨e, j, a1, a2, a3, a4⟩ | ⟨j, a1, a2, e⟩
    · have e' : c = 0 := (nI_eq (b := 0) (by omega) (by omega)).mp e
      exact ⟨j, fun _ => ⟨a1, a2⟩, fun h => by omega⟩
    · have e' : c = 8 := (nI_eq (b := 8) (by omega) (by omega)).mp e
      exact ⟨j, fun h => by omega, fun _ => ⟨a1, a2, a3, a4⟩⟩
    · have e' := (nI_eq (by omega) (by omega)).mp e
      exact ⟨0, fun h => by omega, fun h => by omega⟩
  obtain ⟨w, w1, w2⟩ := hv
  refine ⟨by omega, by unfold upd; rw [if_pos rfl], fun i => if i = d then c else kd i, fun i => if i = d then w else vl i, ?_, ?_⟩
  · intro i hi
    by_cases e : i = d
    · subst e
      simp only [upd, if_true]
      refine ⟨trivial, hc, fun h => (w1 h).1, fun h => ⟨(w2 h).1, (w2 h).2.2⟩, fun h => ?_⟩
      rw [if_pos h]
      rcases h with h | h
      · exact (w1 h).2
      · exact (w2 h).2.1
    · have := hK i (by omega)
      have e2 : ¬ 96 + i = 96 + d := by omega
      simp only [upd, if_neg e, if_neg e2]
      exact this
  · intro i hi
    by_cases e : i = d
    · subst e
      simp only [upd, if_true]
      refine ⟨trivial, fun h => ?_⟩
      rcases h with h | h
      · exact (w1 h).2
      · exact (w2 h).2.1
    · have := hX i (by omega)
      simp only [upd, if_neg e]
      exact this
theorem i_vc_token {k : Nat} {u : SX} {v : SY} (I : i_Rel k u v) (hk : k + 5 ≤ 2560) (v1 : Int32) (v2 : Int32) : wpX_token (fun r u' => wpY_token (fun r' v' => r' = r ∧ i_Rel (k + 5) u' v') v v1 v2) u v1 v2 := by
  refine i_el I (P := fun u v => wpX_token (fun r u' => wpY_token (fun r' v' => r' = r ∧ i_Rel (k + 5) u' v') v v1 v2) u v1 v2) ?_
  intro d latestPlace positions fragments elementCount draftKind draftValue weights tokenAt fragmentBegin fragmentFirst fragmentLast fragmentEmpty reachedWith follow bearing accepting kindOfType leastOf greatestOf listedCount listedValue attributeUse attributeType typeOfName inUse nameOf parentOf kidCount kids hasValue valueOf hasAttribute attributeValue walked waiting yroot yrowLength yfirst youts ytop ykind ywith ysize yparent yrow yends ylack yshortest youtKind youtWith ywork yworkWith yweight yfollow yfirsts ylasts ybare ymet ynameAt ytokenAt ytodo hD hT hM hE
  have hd := hD.1
  have hs := hD.2.1
  refine sx_token hd (fun h => ?_) (fun h hx => ?_)
  · exact sy_token hs hd (fun _ => ⟨rfl, i_mk hD hT hM hE⟩) (fun h2 hx2 c hc e => by rcases h with h | h; omega; exact absurd hx2 h)
  · refine sy_token hs hd (fun h2 => by rcases h2 with h2 | h2; omega; exact absurd hx h2) (fun h2 hx2 c hc e => ?_)
    subst e
    refine ⟨rfl, i_mk (rl_D_add hD h hc hx) hT (rl_M_cg hM (fun _ _ h => h) (fun _ _ => rfl) (fun _ _ => rfl) (fun _ _ => rfl) (fun j hj => ?_) (fun j hj => ?_) (fun t ht => ?_)) hE⟩
    · exact pk_un (by omega)
    · exact pk_un (by omega)
    · exact pk_un (by omega)
theorem i_vc_place {k : Nat} {u : SX} {v : SY} (I : i_Rel k u v) (hk : k + 5 ≤ 2560) : wpX_place (fun r => wpY_place (fun r' => r' = r ∧ i_Rel (k + 5) u v) v) u := by
  refine i_el I (P := fun u v => wpX_place (fun r => wpY_place (fun r' => r' = r ∧ i_Rel (k + 5) u v) v) u) ?_
  intro d latestPlace positions fragments elementCount draftKind draftValue weights tokenAt fragmentBegin fragmentFirst fragmentLast fragmentEmpty reachedWith follow bearing accepting kindOfType leastOf greatestOf listedCount listedValue attributeUse attributeType typeOfName inUse nameOf parentOf kidCount kids hasValue valueOf hasAttribute attributeValue walked waiting yroot yrowLength yfirst youts ytop ykind ywith ysize yparent yrow yends ylack yshortest youtKind youtWith ywork yworkWith yweight yfollow yfirsts ylasts ybare ymet ynameAt ytokenAt ytodo hD hT hM hE
  exact ⟨rfl, i_mk hD hT hM hE⟩
