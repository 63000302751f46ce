/-! ===== the reference's automaton, over the tree ===== -/
section
variable {yplace yroot yrowLength yfirst youts ytop : Int32} {ykind ywith ysize ysort ymany yuse ytypeOf yleast ygreatest ylisted ytypeOfName yused yvalued ygiven yname yparent ychildren ycount yrow yvalue yattributes yends ylack yshortest youtKind youtWith ywork yworkWith yweight yfollow yfirsts ylasts ybare ymet ynameAt ytokenAt ytodo : Nat → Int32}
/-- an operator: what is before its join -/
theorem sy_amO {post : Int32 → SY → Prop} {x1 x2 x3 : Int32} {kk b fu : Nat} (hk : 0 < kk) (hk9 : kk < 9) (hb : b < 8000) (ho : youtKind b = nI kk) (h : wpY_join (fun r u => match u with | (yplace, yroot, yrowLength, yfirst, youts, ytop, ykind, ywith, ysize, ysort, ymany, yuse, ytypeOf, yleast, ygreatest, ylisted, ytypeOfName, yused, yvalued, ygiven, yname, yparent, ychildren, ycount, yrow, yvalue, yattributes, yends, ylack, yshortest, youtKind, youtWith, ywork, yworkWith, yweight, yfollow, yfirsts, ylasts, ybare, ymet, ynameAt, ytokenAt, ytodo) => ∀ x, x = nI b + (-1) → wY_ambiguous_42 post x1 fu x2 r x yplace yroot yrowLength yfirst youts ytop ykind ywith ysize ysort ymany yuse ytypeOf yleast ygreatest ylisted ytypeOfName yused yvalued ygiven yname yparent ychildren ycount yrow yvalue yattributes yends ylack yshortest youtKind youtWith ywork yworkWith yweight yfollow yfirsts ylasts ybare ymet ynameAt ytokenAt ytodo) (yplace, yroot, yrowLength, yfirst, youts, ytop, ykind, ywith, ysize, ysort, ymany, yuse, ytypeOf, yleast, ygreatest, ylisted, ytypeOfName, yused, yvalued, ygiven, yname, yparent, ychildren, ycount, yrow, yvalue, yattributes, yends, ylack, yshortest, youtKind, youtWith, ywork, yworkWith, yweight, yfollow, yfirsts, ylasts, ybare, ymet, ynameAt, ytokenAt, ytodo) (nI kk) x2 x3) : wY_ambiguous_42 post x1 (fu + 1) x2 x3 (nI (b + 1) + (-1)) yplace yroot yrowLength yfirst youts ytop ykind ywith ysize ysort ymany yuse ytypeOf yleast ygreatest ylisted ytypeOfName yused yvalued ygiven yname yparent ychildren ycount yrow yvalue yattributes yends ylack yshortest youtKind youtWith ywork yworkWith yweight yfollow yfirsts ylasts ybare ymet ynameAt ytokenAt ytodo := by
  have cb : (nI b).toNatClampNeg = b := nb_cl (by omega)
  have vb : vp_in (nI b) 8000 := vp_in_nI hb (by omega)
  rw [nb_a1]
  refine br_f (nI_pos (by omega)) ⟨vb, ?_⟩
  rw [cb, ho]
  refine br_f (nI_ne0 hk (by omega)) ⟨vb, ?_⟩
  rw [cb, ho]
  exact h
theorem sy_amT {post : Int32 → SY → Prop} {x1 : Int32} {d : Nat} {kd vl : Nat → Nat} (hd : d ≤ 16) (hK : rl_K ykind ywith 96 d kd vl) : ∀ T : ex_T, (∀ (b f P fu : Nat) (ta nm fi la ba fo : Nat → Int32), ou_S youtKind youtWith T b → ex_Q (fun i => i < d ∧ kd i = 0) T → b + ex_n T ≤ 8000 → f + ex_l T ≤ 1000 → P + ex_w T ≤ 30 → (∀ ta' nm' fi' la' ba' fo' : Nat → Int32, yg_Q d kd vl (ex_w T) (ex_L id T) f P ta nm fi la ba fo ta' nm' fi' la' ba' fo' → wY_ambiguous_42 post x1 fu (nI P) (nI (f + 1)) (nI b + (-1)) yplace yroot yrowLength yfirst youts ytop ykind ywith ysize ysort ymany yuse ytypeOf yleast ygreatest ylisted ytypeOfName yused yvalued ygiven yname yparent ychildren ycount yrow yvalue yattributes yends ylack yshortest youtKind youtWith ywork yworkWith yweight fo' fi' la' ba' ymet nm' ta' ytodo) → wY_ambiguous_42 post x1 (fu + ex_n T) (nI (P + ex_w T)) (nI f) (nI (b + ex_n T) + (-1)) yplace yroot yrowLength yfirst youts ytop ykind ywith ysize ysort ymany yuse ytypeOf yleast ygreatest ylisted ytypeOfName yused yvalued ygiven yname yparent ychildren ycount yrow yvalue yattributes yends ylack yshortest youtKind youtWith ywork yworkWith yweight fo fi la ba ymet nm ta ytodo) := by
  have two : ∀ (A B : ex_T) (L : List Nat → Prop) (kk : Nat), (kk = 1 ∨ kk = 2) → (∀ u, L u ↔ (kk = 1 ∧ ex_cat (ex_L id A) (ex_L id B) u) ∨ (kk = 2 ∧ (ex_L id A u ∨ ex_L id B u))) → (∀ (b f P fu : Nat) (ta nm fi la ba fo : Nat → Int32), ou_S youtKind youtWith A b → ex_Q (fun i => i < d ∧ kd i = 0) A → b + ex_n A ≤ 8000 → f + ex_l A ≤ 1000 → P + ex_w A ≤ 30 → (∀ ta' nm' fi' la' ba' fo' : Nat → Int32, yg_Q d kd vl (ex_w A) (ex_L id A) f P ta nm fi la ba fo ta' nm' fi' la' ba' fo' → wY_ambiguous_42 post x1 fu (nI P) (nI (f + 1)) (nI b + (-1)) yplace yroot yrowLength yfirst youts ytop ykind ywith ysize ysort ymany yuse ytypeOf yleast ygreatest ylisted ytypeOfName yused yvalued ygiven yname yparent ychildren ycount yrow yvalue yattributes yends ylack yshortest youtKind youtWith ywork yworkWith yweight fo' fi' la' ba' ymet nm' ta' ytodo) → wY_ambiguous_42 post x1 (fu + ex_n A) (nI (P + ex_w A)) (nI f) (nI (b + ex_n A) + (-1)) yplace yroot yrowLength yfirst youts ytop ykind ywith ysize ysort ymany yuse ytypeOf yleast ygreatest ylisted ytypeOfName yused yvalued ygiven yname yparent ychildren ycount yrow yvalue yattributes yends ylack yshortest youtKind youtWith ywork yworkWith yweight fo fi la ba ymet nm ta ytodo) → (∀ (b f P fu : Nat) (ta nm fi la ba fo : Nat → Int32), ou_S youtKind youtWith B b → ex_Q (fun i => i < d ∧ kd i = 0) B → b + ex_n B ≤ 8000 → f + ex_l B ≤ 1000 → P + ex_w B ≤ 30 → (∀ ta' nm' fi' la' ba' fo' : Nat → Int32, yg_Q d kd vl (ex_w B) (ex_L id B) f P ta nm fi la ba fo ta' nm' fi' la' ba' fo' → wY_ambiguous_42 post x1 fu (nI P) (nI (f + 1)) (nI b + (-1)) yplace yroot yrowLength yfirst youts ytop ykind ywith ysize ysort ymany yuse ytypeOf yleast ygreatest ylisted ytypeOfName yused yvalued ygiven yname yparent ychildren ycount yrow yvalue yattributes yends ylack yshortest youtKind youtWith ywork yworkWith yweight fo' fi' la' ba' ymet nm' ta' ytodo) → wY_ambiguous_42 post x1 (fu + ex_n B) (nI (P + ex_w B)) (nI f) (nI (b + ex_n B) + (-1)) yplace yroot yrowLength yfirst youts ytop ykind ywith ysize ysort ymany yuse ytypeOf yleast ygreatest ylisted ytypeOfName yused yvalued ygiven yname yparent ychildren ycount yrow yvalue yattributes yends ylack yshortest youtKind youtWith ywork yworkWith yweight fo fi la ba ymet nm ta ytodo) →
      ∀ (b f P fu : Nat) (ta nm fi la ba fo : Nat → Int32), youtKind b = nI kk → ou_S youtKind youtWith A (b + 1) → ou_S youtKind youtWith B (b + 1 + ex_n A) → ex_Q (fun i => i < d ∧ kd i = 0) A → ex_Q (fun i => i < d ∧ kd i = 0) B → b + (1 + ex_n A + ex_n B) ≤ 8000 → f + (ex_l A + ex_l B) ≤ 1000 → P + (ex_w A + ex_w B) ≤ 30 → (∀ ta' nm' fi' la' ba' fo' : Nat → Int32, yg_Q d kd vl (ex_w A + ex_w B) L f P ta nm fi la ba fo ta' nm' fi' la' ba' fo' → wY_ambiguous_42 post x1 fu (nI P) (nI (f + 1)) (nI b + (-1)) yplace yroot yrowLength yfirst youts ytop ykind ywith ysize ysort ymany yuse ytypeOf yleast ygreatest ylisted ytypeOfName yused yvalued ygiven yname yparent ychildren ycount yrow yvalue yattributes yends ylack yshortest youtKind youtWith ywork yworkWith yweight fo' fi' la' ba' ymet nm' ta' ytodo) → wY_ambiguous_42 post x1 (fu + (1 + ex_n A + ex_n B)) (nI (P + (ex_w A + ex_w B))) (nI f) (nI (b + (1 + ex_n A + ex_n B)) + (-1)) yplace yroot yrowLength yfirst youts ytop ykind ywith ysize ysort ymany yuse ytypeOf yleast ygreatest ylisted ytypeOfName yused yvalued ygiven yname yparent ychildren ycount yrow yvalue yattributes yends ylack yshortest youtKind youtWith ywork yworkWith yweight fo fi la ba ymet nm ta ytodo := by
    intro A B L kk hkk hL ihA ihB b f P fu ta nm fi la ba fo hkb hSA hSB hQA hQB hb hf h30 h
    have pA := ex_n_pos A
    have pB := ex_n_pos B
    have lA := ex_l_pos A
    have lB := ex_l_pos B
    rw [show fu + (1 + ex_n A + ex_n B) = fu + 1 + ex_n A + ex_n B by omega, show b + (1 + ex_n A + ex_n B) = b + 1 + ex_n A + ex_n B by omega, show P + (ex_w A + ex_w B) = P + ex_w A + ex_w B by omega]
    refine ihB (b + 1 + ex_n A) f (P + ex_w A) (fu + 1 + ex_n A) ta nm fi la ba fo hSB hQB (by omega) (by omega) (by omega) (fun ta1 nm1 fi1 la1 ba1 fo1 Q1 => ?_)
    obtain ⟨q1, q2, q3, q4, q5⟩ := Q1
    refine ihA (b + 1) (f + 1) P (fu + 1) ta1 nm1 fi1 la1 ba1 fo1 hSA hQA (by omega) (by omega) (by omega) (fun ta2 nm2 fi2 la2 ba2 fo2 Q2 => ?_)
    obtain ⟨r1, r2, r3, r4, r5⟩ := Q2
    obtain ⟨a1, a2, a3⟩ := r3 f (by omega)
    have g2 : yg_g ta2 fo2 (P + ex_w A) (P + (ex_w A + ex_w B)) (fi2 f) (la2 f) (ba2 f) (ex_L id B) := by
      rw [a1, a2, a3, show P + (ex_w A + ex_w B) = P + ex_w A + ex_w B by omega]
      exact yg_cg q2 (fun p p1 p2 => ⟨(r4 p p1).1, (r4 p p1).2.2⟩)
    have e2 : ba2 f = 0 ∨ ba2 f = 1 := by rw [a3]; exact q1
    have low : ∀ j, j < f → fi2 j = fi j ∧ la2 j = la j ∧ ba2 j = ba j := fun j hj => by
      obtain ⟨c1, c2, c3⟩ := r3 j (by omega)
      rw [c1, c2, c3]
      exact q3 j hj
    have high : ∀ p, P + (ex_w A + ex_w B) ≤ p → ta2 p = ta p ∧ nm2 p = nm p ∧ fo2 p = fo p := fun p hp => by
      obtain ⟨c1, c2, c3⟩ := r4 p (by omega)
      rw [c1, c2, c3]
      exact q4 p (by omega)
    have tok : ∀ p, P ≤ p → p < P + (ex_w A + ex_w B) → ∃ i, i < d ∧ kd i = 0 ∧ ta2 p = nI i ∧ nm2 p = nI (vl i) := fun p p1 p2 => by
      by_cases q : p < P + ex_w A
      · exact r5 p p1 q
      · obtain ⟨c1, c2, c3⟩ := r4 p (by omega)
        rw [c1, c2]
        exact q5 p (by omega) (by omega)
    refine sy_amO (kk := kk) (by omega) (by omega) (by omega) hkb ?_
    rcases hkk with rfl | rfl
    · refine sy_join1 (by omega) e2 r1 (nm_e (h _ _ _ _ _ _ ⟨?_, ?_, fun j hj => ?_, fun p hp => ?_, tok⟩))
      · rw [pk_us]; exact an_01 _ _
      · rw [pk_us, pk_us, pk_us]
        refine yg_L (yg_seq r2 g2 (by omega) (by omega) (by omega) (ou_ne B _ hSB)) (fun u => (hL u).trans ⟨fun q => q.elim (fun q => q.2) (fun q => absurd q.1 (by omega)), fun q => Or.inl ⟨rfl, q⟩⟩)
      · rw [pk_un (by omega), pk_un (by omega), pk_un (by omega)]; exact low j hj
      · obtain ⟨c1, c2, c3⟩ := high p hp
        refine ⟨c1, c2, ?_⟩
        rw [yk_out, c3]
        cases hv : bt (la2 (f + 1)) p with
        | false => rfl
        | true => have := r2.2.1 p hv; omega
    · refine sy_join2 (by omega) e2 r1 (nm_e (h _ _ _ _ _ _ ⟨?_, ?_, fun j hj => ?_, high, tok⟩))
      · rw [pk_us]; exact ow_01 _ _
      · rw [pk_us, pk_us, pk_us]
        exact yg_L (yg_alt r2 g2 (by omega) (by omega)) (fun u => (hL u).trans ⟨fun q => q.elim (fun q => absurd q.1 (by omega)) (fun q => q.2), fun q => Or.inr ⟨rfl, q⟩⟩)
      · rw [pk_un (by omega), pk_un (by omega), pk_un (by omega)]; exact low j hj
  intro T
  induction T with
  | natCast k => intro b f P fu ta nm fi la ba fo hS; exact hS.elim
  | intCast k => intro b f P fu ta nm fi la ba fo hS; exact hS.elim
  | sub A B _ _ => intro b f P fu ta nm fi la ba fo hS; exact hS.elim
  | num k =>
    intro b f P fu ta nm fi la ba fo hS hQ hb hf h30 h
    simp only [ex_n, ex_l, ex_w, Nat.add_zero] at hb hf h30 h ⊢
    refine sy_amO (kk := 6) (by omega) (by omega) (by omega) hS ?_
    refine sy_joinE (by omega) (nm_e (h _ _ _ _ _ _ ⟨by rw [pk_us]; exact Or.inr rfl, ?_, fun j hj => ?_, fun p _ => ⟨rfl, rfl, rfl⟩, fun p p1 p2 => by omega⟩))
    · rw [pk_us, pk_us, pk_us]
      exact gl_F_eq gl_none (fun p => ⟨fun q => by omega, fun q => q.elim⟩) (fun p => by rw [b_0]; exact ⟨fun q => absurd q Bool.false_ne_true, fun q => q.elim⟩) (fun p => by rw [b_0]; exact ⟨fun q => absurd q Bool.false_ne_true, fun q => q.elim⟩) ⟨fun _ => trivial, fun _ => nb_10⟩ (fun u => Iff.rfl)
    · rw [pk_un (by omega), pk_un (by omega), pk_un (by omega)]; exact ⟨rfl, rfl, rfl⟩
  | var i =>
    intro b f P fu ta nm fi la ba fo hS hQ hb hf h30 h
    simp only [ex_n, ex_l, ex_w] at hb hf h30 h ⊢
    obtain ⟨o1, o2⟩ := hS
    obtain ⟨id', ki⟩ := hQ
    obtain ⟨_, _, v6, _, wv⟩ := hK i id'
    have v6' := v6 ki
    have cb : (nI b).toNatClampNeg = b := nb_cl (by omega)
    have vb : vp_in (nI b) 8000 := vp_in_nI (by omega) (by omega)
    have vP : vp_in (nI P) 30 := vp_in_nI (by omega) (by omega)
    have cP : (nI P).toNatClampNeg = P := nb_cl (by omega)
    rw [nb_a1]
    refine br_f (nI_pos (by omega)) ⟨vb, ?_⟩
    rw [cb, o1, o2, show (96 : Int32) + nI i = nI (96 + i) from nI_add 96 i, nb_cl (n := 96 + i) (by omega), wv (Or.inl ki)]
    refine br_t rfl (nm_r (e' := nI P) (nb_a1 P) ⟨vP, nm_r (e' := upd fo P 0) (by rw [cP]) ⟨vb, vP, nm_r (e' := upd ta P (nI i)) (by rw [cP, nb_vb (by omega)]) ⟨vb, vp_in_nI (by omega) (by omega), vP, nm_r (e' := upd nm P (nI (vl i))) (by rw [cP, nb_vb (by omega)]) ⟨vb, ?_⟩⟩⟩⟩)
    rw [cb, o1]
    refine sy_joinN (by omega) (nm_e (h _ _ _ _ _ _ ⟨by rw [pk_us]; exact Or.inl rfl, ?_, fun j hj => ?_, fun p hp => ?_, fun p p1 p2 => ?_⟩))
    · rw [pk_us, pk_us, pk_us]
      have g := gl_leaf (φ := fun p q => bt (upd fo P 0 p) q = true) (tk := fun p => (upd ta P (nI i) p).toNatClampNeg) (p := P) (fun q => by show ¬ bt (upd fo P 0 P) q = true; rw [pk_us, b_0]; exact Bool.false_ne_true)
      refine gl_F_eq g (fun p => by omega) (fun p => bb_sI (by omega)) (fun p => bb_sI (by omega)) ⟨fun q => absurd rfl q, fun q => q.elim⟩ (fun u => ?_)
      show u = [id i] ↔ u = [(upd ta P (nI i) P).toNatClampNeg]
      rw [pk_us, nb_cl (by omega)]
      exact Iff.rfl
    · rw [pk_un (by omega), pk_un (by omega), pk_un (by omega)]; exact ⟨rfl, rfl, rfl⟩
    · rw [pk_un (by omega), pk_un (by omega), pk_un (by omega)]; exact ⟨rfl, rfl, rfl⟩
    · obtain rfl : p = P := by omega
      exact ⟨i, id', ki, pk_us, pk_us⟩
  | neg A ih =>
    intro b f P fu ta nm fi la ba fo hS hQ hb hf h30 h
    have pA := ex_n_pos A
    have lA := ex_l_pos A
    simp only [ex_n, ex_l, ex_w] at hb hf h30 h ⊢
    rw [show fu + (1 + ex_n A) = fu + 1 + ex_n A by omega, show b + (1 + ex_n A) = b + 1 + ex_n A by omega]
    refine ih (b + 1) f P (fu + 1) ta nm fi la ba fo hS.2 hQ (by omega) (by omega) (by omega) (fun ta1 nm1 fi1 la1 ba1 fo1 Q1 => ?_)
    obtain ⟨q1, q2, q3, q4, q5⟩ := Q1
    refine sy_amO (kk := 3) (by omega) (by omega) (by omega) hS.1 ?_
    refine sy_join3 (by omega) (nm_e (h _ _ _ _ _ _ ⟨by rw [pk_us]; exact Or.inr rfl, ?_, fun j hj => ?_, q4, q5⟩))
    · rw [pk_us]
      exact gl_F_eq (gl_opt q2) (fun _ => Iff.rfl) (fun _ => Iff.rfl) (fun _ => Iff.rfl) ⟨fun _ => trivial, fun _ => nb_10⟩ (fun u => Iff.rfl)
    · rw [pk_un (by omega)]; exact q3 j hj
  | add A B ihA ihB =>
    intro b f P fu ta nm fi la ba fo hS hQ hb hf h30 h
    exact two A B (ex_L id (.add A B)) 2 (by omega) (fun u => ⟨fun q => Or.inr ⟨rfl, q⟩, fun q => q.elim (fun q => absurd q.1 (by omega)) (fun q => q.2)⟩) ihA ihB b f P fu ta nm fi la ba fo hS.1 hS.2.1 hS.2.2 hQ.1 hQ.2 hb hf h30 h
  | mul A B ihA ihB =>
    intro b f P fu ta nm fi la ba fo hS hQ hb hf h30 h
    exact two A B (ex_L id (.mul A B)) 1 (by omega) (fun u => ⟨fun q => Or.inl ⟨rfl, q⟩, fun q => q.elim (fun q => q.2) (fun q => absurd q.1 (by omega))⟩) ihA ihB b f P fu ta nm fi la ba fo hS.1 hS.2.1 hS.2.2 hQ.1 hQ.2 hb hf h30 h
  | pow A k ih =>
    intro b f P fu ta nm fi la ba fo hS hQ hb hf h30 h
    have pA := ex_n_pos A
    have lA := ex_l_pos A
    obtain ⟨s1, sA⟩ := hS
    have em : ex_m k * ex_w A = ex_w A := by
      rcases s1 with ⟨q, _⟩ | ⟨q, _⟩ <;> subst q <;> exact Nat.one_mul _
    simp only [ex_n, ex_l, ex_w, em] at hb hf h30 h ⊢
    rw [show fu + (1 + ex_n A) = fu + 1 + ex_n A by omega, show b + (1 + ex_n A) = b + 1 + ex_n A by omega]
    refine ih (b + 1) f P (fu + 1) ta nm fi la ba fo sA hQ (by omega) (by omega) (by omega) (fun ta1 nm1 fi1 la1 ba1 fo1 Q1 => ?_)
    obtain ⟨q1, q2, q3, q4, q5⟩ := Q1
    have gp : gl_F (fun p q => bt (yk_f fo1 (la1 f) (fi1 f) 30 p) q = true) (fun p => (ta1 p).toNatClampNeg) (fun p => P ≤ p ∧ p < P + ex_w A) (fun q => bt (fi1 f) q = true) (fun q => bt (la1 f) q = true) (ba1 f ≠ 0) (fun u => ∃ j, 1 ≤ j ∧ ex_pw (ex_L id A) j u) := gl_plus q2 (fun p q => yk_I (fun i r => by have := (q2.2.1 i r).2; omega))
    have high : ∀ p, P + ex_w A ≤ p → ta1 p = ta p ∧ nm1 p = nm p ∧ yk_f fo1 (la1 f) (fi1 f) 30 p = fo p := fun p hp => by
      obtain ⟨c1, c2, c3⟩ := q4 p hp
      refine ⟨c1, c2, ?_⟩
      rw [yk_out, c3]
      cases hv : bt (la1 f) p with
      | false => rfl
      | true => have := q2.2.1 p hv; omega
    rcases s1 with ⟨q, ho⟩ | ⟨q, ho⟩
    · subst q
      refine sy_amO (kk := 4) (by omega) (by omega) (by omega) ho ?_
      refine sy_join4 (by omega) q1 (nm_e (h _ _ _ _ _ _ ⟨by rw [pk_us]; exact Or.inr rfl, ?_, fun j hj => ?_, high, q5⟩))
      · rw [pk_us]
        refine gl_F_eq (gl_opt gp) (fun _ => Iff.rfl) (fun _ => Iff.rfl) (fun _ => Iff.rfl) ⟨fun _ => trivial, fun _ => nb_10⟩ (fun u => ?_)
        constructor
        · rintro ⟨j, _, _, hj⟩
          cases j with
          | zero => exact Or.inl hj
          | succ j => exact Or.inr ⟨j + 1, by omega, hj⟩
        · rintro (q | ⟨j, _, hj⟩)
          · exact ⟨0, by decide, fun q => by omega, q⟩
          · exact ⟨j, Nat.zero_le _, fun q => by omega, hj⟩
      · rw [pk_un (by omega)]; exact q3 j hj
    · subst q
      refine sy_amO (kk := 5) (by omega) (by omega) (by omega) ho ?_
      refine sy_join5 (by omega) q1 (nm_e (h _ _ _ _ _ _ ⟨q1, ?_, q3, high, q5⟩))
      refine gl_F_eq gp (fun _ => Iff.rfl) (fun _ => Iff.rfl) (fun _ => Iff.rfl) Iff.rfl (fun u => ?_)
      constructor
      · rintro ⟨j, j1, _, hj⟩; exact ⟨j, j1, hj⟩
      · rintro ⟨j, j1, hj⟩; exact ⟨j, j1, fun q => by omega, hj⟩
/-- how many NAMEs -/
theorem sy_amC {post : Int32 → SY → Prop} {N : Nat} (hN : N ≤ 8000) : ∀ (T : ex_T) (b c fu : Nat), ou_S youtKind youtWith T b → b + ex_n T ≤ N → wY_ambiguous_4 post yplace yroot yrowLength yfirst (nI N) ytop ykind ywith ysize ysort ymany yuse ytypeOf yleast ygreatest ylisted ytypeOfName yused yvalued ygiven yname yparent ychildren ycount yrow yvalue yattributes yends ylack yshortest youtKind youtWith ywork yworkWith yweight yfollow yfirsts ylasts ybare ymet ynameAt ytokenAt ytodo fu (nI (c + ex_w T)) (nI (b + ex_n T)) → wY_ambiguous_4 post yplace yroot yrowLength yfirst (nI N) ytop ykind ywith ysize ysort ymany yuse ytypeOf yleast ygreatest ylisted ytypeOfName yused yvalued ygiven yname yparent ychildren ycount yrow yvalue yattributes yends ylack yshortest youtKind youtWith ywork yworkWith yweight yfollow yfirsts ylasts ybare ymet ynameAt ytokenAt ytodo (fu + ex_n T) (nI c) (nI b) := by
  have step : ∀ (kk b c fu : Nat), 0 < kk → kk < 9 → youtKind b = nI kk → b < N → wY_ambiguous_4 post yplace yroot yrowLength yfirst (nI N) ytop ykind ywith ysize ysort ymany yuse ytypeOf yleast ygreatest ylisted ytypeOfName yused yvalued ygiven yname yparent ychildren ycount yrow yvalue yattributes yends ylack yshortest youtKind youtWith ywork yworkWith yweight yfollow yfirsts ylasts ybare ymet ynameAt ytokenAt ytodo fu (nI c) (nI (b + 1)) → wY_ambiguous_4 post yplace yroot yrowLength yfirst (nI N) ytop ykind ywith ysize ysort ymany yuse ytypeOf yleast ygreatest ylisted ytypeOfName yused yvalued ygiven yname yparent ychildren ycount yrow yvalue yattributes yends ylack yshortest youtKind youtWith ywork yworkWith yweight yfollow yfirsts ylasts ybare ymet ynameAt ytokenAt ytodo (fu + 1) (nI c) (nI b) := by
    intro kk b c fu k0 k9 ho hb h
    refine br_f (nI_ge (by omega) (by omega)) ⟨vp_in_nI (by omega) (by omega), ?_⟩
    rw [nb_cl (n := b) (by omega), ho]
    exact br_f (nI_ne0 k0 (by omega)) (nm_r (nI_1 b) h)
  intro T
  induction T with
  | natCast k => intro b c fu hS; exact hS.elim
  | intCast k => intro b c fu hS; exact hS.elim
  | sub A B _ _ => intro b c fu hS; exact hS.elim
  | num k => intro b c fu hS hb h; simp only [ex_n, ex_w] at hb h ⊢; exact step 6 b c fu (by omega) (by omega) hS (by omega) h
  | var i =>
    intro b c fu hS hb h
    simp only [ex_n, ex_w] at hb h ⊢
    refine br_f (nI_ge (by omega) (by omega)) ⟨vp_in_nI (by omega) (by omega), ?_⟩
    rw [nb_cl (n := b) (by omega), hS.1]
    exact br_t rfl (nm_r (nI_1 c) (nm_r (nI_1 b) h))
  | neg A ih =>
    intro b c fu hS hb h
    simp only [ex_n, ex_w] at hb h ⊢
    rw [show fu + (1 + ex_n A) = fu + ex_n A + 1 by omega]
    refine step 3 b c _ (by omega) (by omega) hS.1 (by omega) (ih (b + 1) c fu hS.2 (by omega) ?_)
    rw [show b + 1 + ex_n A = b + (1 + ex_n A) by omega]
    exact h
  | add A B ihA ihB =>
    intro b c fu hS hb h
    simp only [ex_n, ex_w] at hb h ⊢
    rw [show fu + (1 + ex_n A + ex_n B) = fu + ex_n B + ex_n A + 1 by omega]
    refine step 2 b c _ (by omega) (by omega) hS.1 (by omega) (ihA (b + 1) c _ hS.2.1 (by omega) (ihB (b + 1 + ex_n A) _ fu hS.2.2 (by omega) ?_))
    rw [show b + 1 + ex_n A + ex_n B = b + (1 + ex_n A + ex_n B) by omega, Nat.add_assoc c]
    exact h
  | mul A B ihA ihB =>
    intro b c fu hS hb h
    simp only [ex_n, ex_w] at hb h ⊢
    rw [show fu + (1 + ex_n A + ex_n B) = fu + ex_n B + ex_n A + 1 by omega]
    refine step 1 b c _ (by omega) (by omega) hS.1 (by omega) (ihA (b + 1) c _ hS.2.1 (by omega) (ihB (b + 1 + ex_n A) _ fu hS.2.2 (by omega) ?_))
    rw [show b + 1 + ex_n A + ex_n B = b + (1 + ex_n A + ex_n B) by omega, Nat.add_assoc c]
    exact h
  | pow A k ih =>
    intro b c fu hS hb h
    obtain ⟨s1, sA⟩ := hS
    have em : ex_m k * ex_w A = ex_w A := by
      rcases s1 with ⟨q, _⟩ | ⟨q, _⟩ <;> subst q <;> exact Nat.one_mul _
    simp only [ex_n, ex_w, em] at hb h ⊢
    rw [show fu + (1 + ex_n A) = fu + ex_n A + 1 by omega]
    have h' : wY_ambiguous_4 post yplace yroot yrowLength yfirst (nI N) ytop ykind ywith ysize ysort ymany yuse ytypeOf yleast ygreatest ylisted ytypeOfName yused yvalued ygiven yname yparent ychildren ycount yrow yvalue yattributes yends ylack yshortest youtKind youtWith ywork yworkWith yweight yfollow yfirsts ylasts ybare ymet ynameAt ytokenAt ytodo fu (nI (c + ex_w A)) (nI (b + 1 + ex_n A)) := by
      rw [show b + 1 + ex_n A = b + (1 + ex_n A) by omega]; exact h
    rcases s1 with ⟨_, ho⟩ | ⟨_, ho⟩
    · exact step 4 b c _ (by omega) (by omega) ho (by omega) (ih (b + 1) c fu sA (by omega) h')
    · exact step 5 b c _ (by omega) (by omega) ho (by omega) (ih (b + 1) c fu sA (by omega) h')
theorem sy_ambig {post : Int32 → SY → Prop} {d : Nat} {kd vl : Nat → Nat} {T : ex_T} (hd : d ≤ 16) (hK : rl_K ykind ywith 96 d kd vl) (hS : ou_S youtKind youtWith T 0) (hQ : ex_Q (fun i => i < d ∧ kd i = 0) T) (hn : ex_n T ≤ 8000) (hl : ex_l T ≤ 1000) (hw : ex_w T ≤ 30)
    (h : ∀ ta nm fi la ba fo : Nat → Int32, yg_Q d kd vl (ex_w T) (ex_L id T) 0 0 ytokenAt ynameAt yfirsts ylasts ybare yfollow ta nm fi la ba fo → wpY_pairs post (yplace, yroot, yrowLength, yfirst, nI (ex_n T), ytop, ykind, ywith, ysize, ysort, ymany, yuse, ytypeOf, yleast, ygreatest, ylisted, ytypeOfName, yused, yvalued, ygiven, yname, yparent, ychildren, ycount, yrow, yvalue, yattributes, yends, ylack, yshortest, youtKind, youtWith, ywork, yworkWith, yweight, fo, fi, la, ba, ymet, nm, ta, ytodo) (nI (ex_w T))) : wpY_ambiguous post (yplace, yroot, yrowLength, yfirst, nI (ex_n T), ytop, ykind, ywith, ysize, ysort, ymany, yuse, ytypeOf, yleast, ygreatest, ylisted, ytypeOfName, yused, yvalued, ygiven, yname, yparent, ychildren, ycount, yrow, yvalue, yattributes, yends, ylack, yshortest, youtKind, youtWith, ywork, yworkWith, yweight, yfollow, yfirsts, ylasts, ybare, ymet, ynameAt, ytokenAt, ytodo) := by
  unfold wpY_ambiguous
  refine ⟨1 + ex_n T, sy_amC hn T 0 0 1 hS (by omega) ?_⟩
  rw [Nat.zero_add, Nat.zero_add]
  refine br_t (nI_le (Nat.le_refl _) (by omega)) (nm_r (e' := nI (0 + ex_n T) + (-1)) (by rw [nb_dec, Nat.zero_add]) ⟨1 + ex_n T, ?_⟩)
  have t := sy_amT (post := post) (x1 := nI (ex_w T)) (youts := nI (ex_n T)) (d := d) (kd := kd) (vl := vl) hd hK T 0 0 0 1 ytokenAt ynameAt yfirsts ylasts ybare yfollow hS hQ (by omega) (by omega) (by omega) (fun ta nm fi la ba fo Q => br_t nb_d0 (h ta nm fi la ba fo Q))
  rw [Nat.zero_add (ex_w T)] at t
  exact t
end
