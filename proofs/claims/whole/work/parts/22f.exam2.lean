/-! ===== examine, over the tree ===== -/
theorem ed_P_cg {w : Nat → Nat} {n : Nat} {vl : Nat → Nat} {R : ex_T} {b : Nat} {sh en lk sh' en' lk' : Nat → Int32} (h : ed_P w n vl R b sh en lk) (hn : n ≤ 24) (h0 : sh' b = sh b) (h1 : ∀ i, 32 * b ≤ i → en' i = en i ∧ lk' i = lk i) : ed_P w n vl R b sh' en' lk' :=
  ⟨h0.trans h.1, ed_R_cg h.2 hn (fun i h2 _ => h1 i h2)⟩
section
variable {yplace yroot yrowLength yfirst youts ytop : Int32} {ykind ywith ysize ysort ymany yuse ytypeOf yleast ygreatest ylisted ytypeOfName yused yvalued ygiven yname yparent ychildren ycount yrow yvalue yattributes yends ylack yshortest youtKind youtWith ywork yworkWith yweight yfollow yfirsts ylasts ybare ymet ynameAt ytokenAt ytodo : Nat → Int32}
theorem sy_shL {post : Int32 → Prop} {t b : Nat} (ht : t < 6) (hb : b < 16) (hk : (ykind (16 * t + b) = nI 0 ∧ post 1) ∨ (ykind (16 * t + b) = nI 6 ∧ post 0)) : wpY_shorter post (yplace, yroot, yrowLength, nI (16 * t), youts, ytop, ykind, ywith, ysize, ysort, ymany, yuse, ytypeOf, yleast, ygreatest, ylisted, ytypeOfName, yused, yvalued, ygiven, yname, yparent, ychildren, ycount, yrow, yvalue, yattributes, yends, ylack, yshortest, youtKind, youtWith, ywork, yworkWith, yweight, yfollow, yfirsts, ylasts, ybare, ymet, ynameAt, ytokenAt, ytodo) (nI b) := by
  unfold wpY_shorter
  dsimp only
  rw [nI_add, nb_cl (n := 16 * t + b) (by omega)]
  refine ⟨vp_in_nI (by omega) (by omega), nm_e ?_⟩
  rcases hk with ⟨hk, p⟩ | ⟨hk, p⟩
  · rw [hk]
    refine sy_parts (by omega) (br_t (by decide) ?_)
    unfold wY_shorter_31
    exact sy_parts (by omega) (br_t (by decide) (br_t rfl p))
  · rw [hk]
    refine sy_parts (by omega) (br_t (by decide) ?_)
    unfold wY_shorter_31
    exact sy_parts (by omega) (br_t (by decide) (br_f (by decide) (br_f (by decide) (br_f (by decide) (br_f (by decide) (br_f (by decide) p))))))
theorem sy_sh1 {post : Int32 → Prop} {t b s kk : Nat} (ht : t < 6) (hb : b + 1 < 16) (hkk : kk = 3 ∨ kk = 4 ∨ kk = 5 ∨ kk = 8) (hk : ykind (16 * t + b) = nI kk) (hs : yshortest (b + 1) = nI s) (p : (kk = 3 → post 0) ∧ (kk = 4 → post 0) ∧ (kk = 5 → post (nI s + 0)) ∧ (kk = 8 → post (ywith (16 * t + b) >>> ((2 : Int32) &&& 31) * nI s))) : wpY_shorter post (yplace, yroot, yrowLength, nI (16 * t), youts, ytop, ykind, ywith, ysize, ysort, ymany, yuse, ytypeOf, yleast, ygreatest, ylisted, ytypeOfName, yused, yvalued, ygiven, yname, yparent, ychildren, ycount, yrow, yvalue, yattributes, yends, ylack, yshortest, youtKind, youtWith, ywork, yworkWith, yweight, yfollow, yfirsts, ylasts, ybare, ymet, ynameAt, ytokenAt, ytodo) (nI b) := by
  unfold wpY_shorter
  dsimp only
  rw [nI_add, nb_cl (n := 16 * t + b) (by omega), hk]
  refine ⟨vp_in_nI (by omega) (by omega), nm_e ?_⟩
  rw [nI_1, nb_cl (n := b + 1) (by omega), hs]
  have vb : vp_in (nI (b + 1)) 16 := vp_in_nI hb (by omega)
  rcases hkk with rfl | rfl | rfl | rfl
  · refine sy_parts (by omega) (br_f (by decide) ⟨vb, ?_⟩)
    unfold wY_shorter_31
    exact sy_parts (by omega) (br_t (by decide) (br_f (by decide) (br_f (by decide) (br_t rfl (p.1 rfl)))))
  · refine sy_parts (by omega) (br_f (by decide) ⟨vb, ?_⟩)
    unfold wY_shorter_31
    exact sy_parts (by omega) (br_t (by decide) (br_f (by decide) (br_f (by decide) (br_f (by decide) (br_t rfl (p.2.1 rfl))))))
  · refine sy_parts (by omega) (br_f (by decide) ⟨vb, ?_⟩)
    unfold wY_shorter_31
    exact sy_parts (by omega) (br_t (by decide) (br_f (by decide) (br_f (by decide) (br_f (by decide) (br_f (by decide) (br_f (by decide) (p.2.2.1 rfl)))))))
  · refine sy_parts (by omega) (br_f (by decide) ⟨vb, ?_⟩)
    unfold wY_shorter_31
    refine sy_parts (by omega) (br_t (by decide) (br_f (by decide) (br_f (by decide) (br_f (by decide) (br_f (by decide) (br_t rfl ?_))))))
    rw [nI_add, nb_cl (n := 16 * t + b) (by omega)]
    exact ⟨vp_in_nI (by omega) (by omega), p.2.2.2 rfl⟩
theorem sy_sh2 {post : Int32 → Prop} {t b N s1 s2 kk : Nat} {kd vl : Nat → Nat} {P : ex_T} (ht : t < 6) (hN : N ≤ 16) (hK : rl_K ykind ywith (16 * t) N kd vl) (hSP : ex_S kd vl P (b + 1)) (hbN : b + 1 + ex_n P < N) (hkk : kk = 1 ∨ kk = 2 ∨ kk = 7) (hk : ykind (16 * t + b) = nI kk) (h1 : yshortest (b + 1) = nI s1) (h2 : yshortest (b + 1 + ex_n P) = nI s2) (hs1 : s1 < 1000) (hs2 : s2 < 1000) (p2 : kk = 2 → post (nI (if s1 < s2 then s1 else s2))) (p1 : kk ≠ 2 → post (nI (s1 + s2))) : wpY_shorter post (yplace, yroot, yrowLength, nI (16 * t), youts, ytop, ykind, ywith, ysize, ysort, ymany, yuse, ytypeOf, yleast, ygreatest, ylisted, ytypeOfName, yused, yvalued, ygiven, yname, yparent, ychildren, ycount, yrow, yvalue, yattributes, yends, ylack, yshortest, youtKind, youtWith, ywork, yworkWith, yweight, yfollow, yfirsts, ylasts, ybare, ymet, ynameAt, ytokenAt, ytodo) (nI b) := by
  unfold wpY_shorter
  dsimp only
  rw [nI_add, nb_cl (n := 16 * t + b) (by omega), hk]
  refine ⟨vp_in_nI (by omega) (by omega), nm_e ?_⟩
  rw [nI_1, nb_cl (n := b + 1) (by omega), h1]
  have vb : vp_in (nI (b + 1)) 16 := vp_in_nI (by omega) (by omega)
  have two : ∀ (x2 : Int32), wY_shorter_59 post (nI b) x2 (nI s1) (nI s2) yplace yroot yrowLength (nI (16 * t)) youts ytop ykind ywith ysize ysort ymany yuse ytypeOf yleast ygreatest ylisted ytypeOfName yused yvalued ygiven yname yparent ychildren ycount yrow yvalue yattributes yends ylack yshortest youtKind youtWith ywork yworkWith yweight yfollow yfirsts ylasts ybare ymet ynameAt ytokenAt ytodo → wpY_second (fun r_14 => vp_in r_14 16 ∧ ∀ x4 : Int32, x4 = yshortest r_14.toNatClampNeg → wY_shorter_59 post (nI b) x2 (nI s1) x4 yplace yroot yrowLength (nI (16 * t)) youts ytop ykind ywith ysize ysort ymany yuse ytypeOf yleast ygreatest ylisted ytypeOfName yused yvalued ygiven yname yparent ychildren ycount yrow yvalue yattributes yends ylack yshortest youtKind youtWith ywork yworkWith yweight yfollow yfirsts ylasts ybare ymet ynameAt ytokenAt ytodo) (yplace, yroot, yrowLength, nI (16 * t), youts, ytop, ykind, ywith, ysize, ysort, ymany, yuse, ytypeOf, yleast, ygreatest, ylisted, ytypeOfName, yused, yvalued, ygiven, yname, yparent, ychildren, ycount, yrow, yvalue, yattributes, yends, ylack, yshortest, youtKind, youtWith, ywork, yworkWith, yweight, yfollow, yfirsts, ylasts, ybare, ymet, ynameAt, ytokenAt, ytodo) (nI b) := by
    intro x2 h
    exact sy_second ht hN hK hSP (by omega) ⟨vp_in_nI (by omega) (by omega), nm_r (e' := nI s2) (by rw [nb_cl (by omega), h2]) h⟩
  rcases hkk with rfl | rfl | rfl
  · refine sy_parts (by omega) (br_f (by decide) ⟨vb, ?_⟩)
    unfold wY_shorter_31
    refine sy_parts (by omega) (br_f (by decide) (two _ (br_f (by decide) (br_f (by decide) (br_f (by decide) (br_f (by decide) (br_f (by decide) ?_)))))))
    rw [nI_add]
    exact p1 (by omega)
  · refine sy_parts (by omega) (br_f (by decide) ⟨vb, ?_⟩)
    unfold wY_shorter_31
    refine sy_parts (by omega) (br_f (by decide) (two _ (br_f (by decide) (br_t rfl (pk_le s2 s1 (fun q => ?_) (fun q => ?_))))))
    · have := p2 rfl; rw [if_neg (by omega)] at this; exact this
    · have := p2 rfl; rw [if_pos q] at this; exact this
  · refine sy_parts (by omega) (br_f (by decide) ⟨vb, ?_⟩)
    unfold wY_shorter_31
    refine sy_parts (by omega) (br_f (by decide) (two _ (br_f (by decide) (br_f (by decide) (br_f (by decide) (br_f (by decide) (br_f (by decide) ?_)))))))
    rw [nI_add]
    exact p1 (by omega)
theorem sy_exT {post : SY → Prop} {t n N : Nat} {w kd vl : Nat → Nat} (ht : t < 6) (hN : N ≤ 16) (hn : n ≤ 24) (hrow : ∀ i, i < n → yrow i = nI (w i) ∧ w i < 6) (hK : rl_K ykind ywith (16 * t) N kd vl) : ∀ (R : ex_T) (b fu : Nat) (sh en lk : Nat → Int32), ex_S kd vl R b → ex_W R → ex_w R ≤ 30 → b + ex_n R ≤ N → (∀ sh' en' lk' : Nat → Int32, ed_P w n vl R b sh' en' lk' → (∀ j, b + ex_n R ≤ j → sh' j = sh j) → (∀ i, 32 * (b + ex_n R) ≤ i → en' i = en i ∧ lk' i = lk i) → wY_examine_17 post (nI n) fu (nI b + (-1)) yplace yroot yrowLength (nI (16 * t)) youts ytop ykind ywith ysize ysort ymany yuse ytypeOf yleast ygreatest ylisted ytypeOfName yused yvalued ygiven yname yparent ychildren ycount yrow yvalue yattributes en' lk' sh' youtKind youtWith ywork yworkWith yweight yfollow yfirsts ylasts ybare ymet ynameAt ytokenAt ytodo) → wY_examine_17 post (nI n) (fu + ex_n R) (nI (b + ex_n R) + (-1)) yplace yroot yrowLength (nI (16 * t)) youts ytop ykind ywith ysize ysort ymany yuse ytypeOf yleast ygreatest ylisted ytypeOfName yused yvalued ygiven yname yparent ychildren ycount yrow yvalue yattributes en lk sh youtKind youtWith ywork yworkWith yweight yfollow yfirsts ylasts ybare ymet ynameAt ytokenAt ytodo := by
  have kind : ∀ b kk, b < N → kd b = kk → ykind (16 * t + b) = nI kk := fun b kk hb q => by rw [(hK b hb).1, q]
  -- binary nodes
  have bin : ∀ (P Q R : ex_T) (kk : Nat), (kk = 1 ∨ kk = 2 ∨ kk = 7) → (kk = 2 → R = .add P Q) → (kk = 1 → R = .mul P Q) → (kk = 7 → R = .sub P Q) →
      (∀ (b fu : Nat) (sh en lk : Nat → Int32), ex_S kd vl P b → ex_W P → ex_w P ≤ 30 → b + ex_n P ≤ N → (∀ sh' en' lk' : Nat → Int32, ed_P w n vl P b sh' en' lk' → (∀ j, b + ex_n P ≤ j → sh' j = sh j) → (∀ i, 32 * (b + ex_n P) ≤ i → en' i = en i ∧ lk' i = lk i) → wY_examine_17 post (nI n) fu (nI b + (-1)) yplace yroot yrowLength (nI (16 * t)) youts ytop ykind ywith ysize ysort ymany yuse ytypeOf yleast ygreatest ylisted ytypeOfName yused yvalued ygiven yname yparent ychildren ycount yrow yvalue yattributes en' lk' sh' youtKind youtWith ywork yworkWith yweight yfollow yfirsts ylasts ybare ymet ynameAt ytokenAt ytodo) → wY_examine_17 post (nI n) (fu + ex_n P) (nI (b + ex_n P) + (-1)) yplace yroot yrowLength (nI (16 * t)) youts ytop ykind ywith ysize ysort ymany yuse ytypeOf yleast ygreatest ylisted ytypeOfName yused yvalued ygiven yname yparent ychildren ycount yrow yvalue yattributes en lk sh youtKind youtWith ywork yworkWith yweight yfollow yfirsts ylasts ybare ymet ynameAt ytokenAt ytodo) →
      (∀ (b fu : Nat) (sh en lk : Nat → Int32), ex_S kd vl Q b → ex_W Q → ex_w Q ≤ 30 → b + ex_n Q ≤ N → (∀ sh' en' lk' : Nat → Int32, ed_P w n vl Q b sh' en' lk' → (∀ j, b + ex_n Q ≤ j → sh' j = sh j) → (∀ i, 32 * (b + ex_n Q) ≤ i → en' i = en i ∧ lk' i = lk i) → wY_examine_17 post (nI n) fu (nI b + (-1)) yplace yroot yrowLength (nI (16 * t)) youts ytop ykind ywith ysize ysort ymany yuse ytypeOf yleast ygreatest ylisted ytypeOfName yused yvalued ygiven yname yparent ychildren ycount yrow yvalue yattributes en' lk' sh' youtKind youtWith ywork yworkWith yweight yfollow yfirsts ylasts ybare ymet ynameAt ytokenAt ytodo) → wY_examine_17 post (nI n) (fu + ex_n Q) (nI (b + ex_n Q) + (-1)) yplace yroot yrowLength (nI (16 * t)) youts ytop ykind ywith ysize ysort ymany yuse ytypeOf yleast ygreatest ylisted ytypeOfName yused yvalued ygiven yname yparent ychildren ycount yrow yvalue yattributes en lk sh youtKind youtWith ywork yworkWith yweight yfollow yfirsts ylasts ybare ymet ynameAt ytokenAt ytodo) →
      ∀ (b fu : Nat) (sh en lk : Nat → Int32), kd b = kk → ex_S kd vl P (b + 1) → ex_S kd vl Q (b + 1 + ex_n P) → ex_W P → ex_W Q → ex_w P + ex_w Q ≤ 30 → ex_w P + ex_w Q ≤ ex_w R → b + (1 + ex_n P + ex_n Q) ≤ N → (∀ sh' en' lk' : Nat → Int32, ed_P w n vl R b sh' en' lk' → (∀ j, b + (1 + ex_n P + ex_n Q) ≤ j → sh' j = sh j) → (∀ i, 32 * (b + (1 + ex_n P + ex_n Q)) ≤ i → en' i = en i ∧ lk' i = lk i) → wY_examine_17 post (nI n) fu (nI b + (-1)) yplace yroot yrowLength (nI (16 * t)) youts ytop ykind ywith ysize ysort ymany yuse ytypeOf yleast ygreatest ylisted ytypeOfName yused yvalued ygiven yname yparent ychildren ycount yrow yvalue yattributes en' lk' sh' youtKind youtWith ywork yworkWith yweight yfollow yfirsts ylasts ybare ymet ynameAt ytokenAt ytodo) → wY_examine_17 post (nI n) (fu + (1 + ex_n P + ex_n Q)) (nI (b + (1 + ex_n P + ex_n Q)) + (-1)) yplace yroot yrowLength (nI (16 * t)) youts ytop ykind ywith ysize ysort ymany yuse ytypeOf yleast ygreatest ylisted ytypeOfName yused yvalued ygiven yname yparent ychildren ycount yrow yvalue yattributes en lk sh youtKind youtWith ywork yworkWith yweight yfollow yfirsts ylasts ybare ymet ynameAt ytokenAt ytodo := by
    intro P Q R kk hkk hR2 hR1 hR7 ihP ihQ b fu sh en lk hkb hSP hSQ hWP hWQ hw hwR hbN h
    obtain ⟨hsP, hsPw⟩ := ex_sh_s vl P hWP
    obtain ⟨hsQ, hsQw⟩ := ex_sh_s vl Q hWQ
    have pP := ex_n_pos P
    have pQ := ex_n_pos Q
    have kb := kind b kk (by omega) hkb
    rw [show fu + (1 + ex_n P + ex_n Q) = fu + 1 + ex_n P + ex_n Q by omega, show b + (1 + ex_n P + ex_n Q) = b + 1 + ex_n P + ex_n Q by omega]
    refine ihQ (b + 1 + ex_n P) (fu + 1 + ex_n P) sh en lk hSQ hWQ (by omega) (by omega) (fun sh1 en1 lk1 hQ c1 d1 => ?_)
    refine ihP (b + 1) (fu + 1) sh1 en1 lk1 hSP hWP (by omega) (by omega) (fun sh2 en2 lk2 hP c2 d2 => ?_)
    have hQ2 : ed_P w n vl Q (b + 1 + ex_n P) sh2 en2 lk2 := ed_P_cg hQ hn (c2 _ (Nat.le_refl _)) d2
    have esh : ex_sh R = if kk = 2 then (if ex_sh P < ex_sh Q then ex_sh P else ex_sh Q) else ex_sh P + ex_sh Q := by
      rcases hkk with rfl | rfl | rfl
      · rw [hR1 rfl]; rfl
      · rw [hR2 rfl]; rfl
      · rw [hR7 rfl]; rfl
    refine sy_exS (R := R) (w := w) (vl := vl) (kd := kd) (N := N) (yshortest := sh2) (yends := en2) (ylack := lk2) (by omega) hn (fun post' p => ?_) (fun a ha en' lk' hf post' hp => ?_) (fun sh3 en3 lk3 hR3 c3 d3 => ?_)
    · refine sy_sh2 (kk := kk) (P := P) ht hN hK hSP (by omega) hkk kb hP.1 hQ2.1 (by omega) (by omega) (fun q => ?_) (fun q => ?_)
      · rw [esh, if_pos q] at p; exact p
      · rw [esh, if_neg q] at p; exact p
    · have tP : ed_P w n vl P (b + 1) (upd sh2 b (nI (ex_sh R))) en' lk' := ed_P_cg hP hn (pk_un (by omega)) (fun i hi => hf i (by omega))
      have tQ : ed_P w n vl Q (b + 1 + ex_n P) (upd sh2 b (nI (ex_sh R))) en' lk' := ed_P_cg hQ2 hn (pk_un (by omega)) (fun i hi => hf i (by omega))
      have go : wpY_two post' (yplace, yroot, yrowLength, nI (16 * t), youts, ytop, ykind, ywith, ysize, ysort, ymany, yuse, ytypeOf, yleast, ygreatest, ylisted, ytypeOfName, yused, yvalued, ygiven, yname, yparent, ychildren, ycount, yrow, yvalue, yattributes, en', lk', upd sh2 b (nI (ex_sh R)), youtKind, youtWith, ywork, yworkWith, yweight, yfollow, yfirsts, ylasts, ybare, ymet, ynameAt, ytokenAt, ytodo) (nI b) (nI a) (nI kk) := by
        refine sy_two (P := P) (Q := Q) (w := w) (kk := kk) ht hN hK hSP (by omega) ha hn hWP hWQ (by omega) (by omega) tP tQ (fun q E x hE hM => ?_) (fun q E x hE hM => ?_) (fun q E x hE hM => ?_) hkk
        · have r := hR2 q; subst r; exact hp E x hE (dp_M_cg hM hwR (fun _ => Iff.rfl))
        · have r := hR1 q; subst r; exact hp E x hE (dp_M_cg hM hwR (fun _ => Iff.rfl))
        · have r := hR7 q; subst r; exact hp E x hE (dp_M_cg hM hwR (fun _ => Iff.rfl))
      refine sy_look0 ht (by omega) kb (fun x4 x5 x6 e4 e5 e6 => ?_)
      subst e4
      rcases hkk with rfl | rfl | rfl
      · exact br_f (by decide) (br_f (by decide) (br_f (by decide) (br_t rfl go)))
      · exact br_f (by decide) (br_f (by decide) (br_f (by decide) (br_f (by decide) (br_t rfl go))))
      · exact br_f (by decide) (br_f (by decide) (br_f (by decide) (br_f (by decide) (br_f (by decide) (br_f (by decide) (br_f (by decide) (br_f (by decide) (br_f (by decide) (br_t rfl go)))))))))
    · refine h sh3 en3 lk3 hR3 (fun j hj => ?_) (fun i hi => ?_)
      · rw [c3 j (by omega), c2 j (by omega), c1 j (by omega)]
      · obtain ⟨u1, u2⟩ := d3 i (by omega)
        obtain ⟨u3, u4⟩ := d2 i (by omega)
        obtain ⟨u5, u6⟩ := d1 i (by omega)
        exact ⟨by rw [u1, u3, u5], by rw [u2, u4, u6]⟩
  intro R
  induction R with
  | natCast k => intro b fu sh en lk hS; exact hS.elim
  | intCast k => intro b fu sh en lk hS; exact hS.elim
  | num k =>
    intro b fu sh en lk hS hW hw hbN h
    simp only [ex_n] at hbN h ⊢
    have kb := kind b 6 (by omega) hS
    refine sy_exS (R := .num k) (w := w) (vl := vl) (kd := kd) (N := N) (yshortest := sh) (yends := en) (ylack := lk) (by omega) hn (fun post' p => sy_shL ht (by omega) (Or.inr ⟨kb, p⟩)) (fun a ha en' lk' hf post' hp => sy_lookN ht (by omega) ha hn kb hp) h
  | var i =>
    intro b fu sh en lk hS hW hw hbN h
    simp only [ex_n] at hbN h ⊢
    obtain ⟨s1, rfl⟩ := hS
    obtain ⟨q1, q2, q3, q4, q5⟩ := hK i (by omega)
    refine sy_exS (R := .var i) (w := w) (vl := vl) (kd := kd) (N := N) (yshortest := sh) (yends := en) (ylack := lk) (by omega) hn (fun post' p => sy_shL ht (by omega) (Or.inl ⟨kind i 0 (by omega) s1, p⟩)) (fun a ha en' lk' hf post' hp => sy_lookV ht (by omega) ha hn hrow (kind i 0 (by omega) s1) (q3 s1) (q5 (Or.inl s1)) hp) h
  | neg P ih =>
    intro b fu sh en lk hS hW hw hbN h
    simp only [ex_n] at hbN h ⊢
    obtain ⟨s1, s2⟩ := hS
    have pP := ex_n_pos P
    have kb := kind b 3 (by omega) s1
    rw [show fu + (1 + ex_n P) = fu + 1 + ex_n P by omega, show b + (1 + ex_n P) = b + 1 + ex_n P by omega]
    refine ih (b + 1) (fu + 1) sh en lk s2 hW hw (by omega) (fun sh1 en1 lk1 hP c1 d1 => ?_)
    refine sy_exS (R := .neg P) (w := w) (vl := vl) (kd := kd) (N := N) (yshortest := sh1) (yends := en1) (ylack := lk1) (by omega) hn (fun post' p => sy_sh1 (kk := 3) ht (by omega) (Or.inl rfl) kb hP.1 ⟨fun _ => p, fun q => by omega, fun q => by omega, fun q => by omega⟩) (fun a ha en' lk' hf post' hp => ?_) (fun sh3 en3 lk3 hR3 c3 d3 => h sh3 en3 lk3 hR3 (fun j hj => ?_) (fun i hi => ?_))
    · have tP : ed_P w n vl P (b + 1) (upd sh1 b (nI (ex_sh (.neg P)))) en' lk' := ed_P_cg hP hn (pk_un (by omega)) (fun i hi => hf i (by omega))
      exact sy_lookO ht (by omega) ha hn kb tP.2 hp
    · rw [c3 j (by omega), c1 j (by omega)]
    · obtain ⟨u1, u2⟩ := d3 i (by omega)
      obtain ⟨u3, u4⟩ := d1 i (by omega)
      exact ⟨by rw [u1, u3], by rw [u2, u4]⟩
  | pow P k ih =>
    intro b fu sh en lk hS hW hw hbN h
    simp only [ex_n] at hbN h ⊢
    obtain ⟨s1, s2⟩ := hS
    have pP := ex_n_pos P
    have hm1 := ex_m_pos hW.2.2
    have hwe : ex_w (.pow P k) = ex_m k * ex_w P := rfl
    have hwP : ex_w P ≤ 30 := by
      have : 1 * ex_w P ≤ ex_m k * ex_w P := Nat.mul_le_mul_right _ hm1
      omega
    obtain ⟨hsP, hsPw⟩ := ex_sh_s vl P hW.1
    obtain ⟨q1, q2, q3, q4, q5⟩ := hK b (by omega)
    have kb : (k < 16 ∧ ykind (16 * t + b) = nI 8 ∧ ywith (16 * t + b) = nI k) ∨ (k = 16 ∧ ykind (16 * t + b) = nI 4) ∨ (k = 17 ∧ ykind (16 * t + b) = nI 5) := by
      rcases s1 with ⟨r1, r2, r3⟩ | ⟨r1, r2⟩ | ⟨r1, r2⟩
      · exact Or.inl ⟨r1, kind b 8 (by omega) r2, by rw [q5 (Or.inr r2), r3]⟩
      · exact Or.inr (Or.inl ⟨r1, kind b 4 (by omega) r2⟩)
      · exact Or.inr (Or.inr ⟨r1, kind b 5 (by omega) r2⟩)
    rw [show fu + (1 + ex_n P) = fu + 1 + ex_n P by omega, show b + (1 + ex_n P) = b + 1 + ex_n P by omega]
    refine ih (b + 1) (fu + 1) sh en lk s2 hW.1 hwP (by omega) (fun sh1 en1 lk1 hP c1 d1 => ?_)
    refine sy_exS (R := .pow P k) (w := w) (vl := vl) (kd := kd) (N := N) (yshortest := sh1) (yends := en1) (ylack := lk1) (by omega) hn (fun post' p => ?_) (fun a ha en' lk' hf post' hp => ?_) (fun sh3 en3 lk3 hR3 c3 d3 => h sh3 en3 lk3 hR3 (fun j hj => ?_) (fun i hi => ?_))
    · have e : ex_sh (.pow P k) = ex_lo k * ex_sh P := rfl
      rw [e] at p
      rcases kb with ⟨r1, r2, r3⟩ | ⟨r1, r2⟩ | ⟨r1, r2⟩
      · refine sy_sh1 (kk := 8) ht (by omega) (by omega) r2 hP.1 ⟨fun q => by omega, fun q => by omega, fun q => by omega, fun _ => ?_⟩
        rw [r3, tk_sh (by omega), pk_mul]
        unfold ex_lo at p
        rw [if_pos r1] at p
        exact p
      · refine sy_sh1 (kk := 4) ht (by omega) (by omega) r2 hP.1 ⟨fun q => by omega, fun _ => ?_, fun q => by omega, fun q => by omega⟩
        rw [r1, show ex_lo 16 = 0 from rfl, Nat.zero_mul] at p
        exact p
      · refine sy_sh1 (kk := 5) ht (by omega) (by omega) r2 hP.1 ⟨fun q => by omega, fun q => by omega, fun _ => ?_, fun q => by omega⟩
        rw [r1, show ex_lo 17 = 1 from rfl, Nat.one_mul] at p
        rw [show (0 : Int32) = nI 0 from rfl, nI_add]
        exact p
    · have tP : ed_P w n vl P (b + 1) (upd sh1 b (nI (ex_sh (.pow P k)))) en' lk' := ed_P_cg hP hn (pk_un (by omega)) (fun i hi => hf i (by omega))
      exact sy_lookW ht (by omega) ha hn hW hw kb tP hp
    · rw [c3 j (by omega), c1 j (by omega)]
    · obtain ⟨u1, u2⟩ := d3 i (by omega)
      obtain ⟨u3, u4⟩ := d1 i (by omega)
      exact ⟨by rw [u1, u3], by rw [u2, u4]⟩
  | add P Q ihP ihQ =>
    intro b fu sh en lk hS hW hw hbN h
    simp only [ex_n] at hbN h ⊢
    have hwe : ex_w (.add P Q) = ex_w P + ex_w Q := rfl
    exact bin P Q (.add P Q) 2 (by omega) (fun _ => rfl) (fun q => by omega) (fun q => by omega) ihP ihQ b fu sh en lk hS.1 hS.2.1 hS.2.2 hW.1 hW.2 (by omega) (by omega) hbN h
  | mul P Q ihP ihQ =>
    intro b fu sh en lk hS hW hw hbN h
    simp only [ex_n] at hbN h ⊢
    have hwe : ex_w (.mul P Q) = ex_w P + ex_w Q := rfl
    exact bin P Q (.mul P Q) 1 (by omega) (fun q => by omega) (fun _ => rfl) (fun q => by omega) ihP ihQ b fu sh en lk hS.1 hS.2.1 hS.2.2 hW.1 hW.2 (by omega) (by omega) hbN h
  | sub P Q ihP ihQ =>
    intro b fu sh en lk hS hW hw hbN h
    simp only [ex_n] at hbN h ⊢
    have hwe : ex_w (.sub P Q) = 2 * (ex_w P + ex_w Q) := rfl
    exact bin P Q (.sub P Q) 7 (by omega) (fun q => by omega) (fun q => by omega) (fun _ => rfl) ihP ihQ b fu sh en lk hS.1 hS.2.1 hS.2.2 hW.1 hW.2 (by omega) (by omega) hbN h
theorem sy_examine {post : SY → Prop} {t n : Nat} {w kd vl : Nat → Nat} {R : ex_T} (ht : t < 6) (hn : n ≤ 24) (hrow : ∀ i, i < n → yrow i = nI (w i) ∧ w i < 6) (hs : ysize t = nI (ex_n R)) (h16 : ex_n R ≤ 16) (hK : rl_K ykind ywith (16 * t) (ex_n R) kd vl) (hS : ex_S kd vl R 0) (hW : ex_W R) (hw : ex_w R ≤ 30)
    (h : ∀ (f : Int32) (sh en lk : Nat → Int32) (x : Nat), (bt (en 0) n = true ↔ ex_L vl R (dp_sl w n 0)) → lk 0 = nI x → dp_M 30 (dp_K (ex_L vl R) w n 0) x → post (yplace, yroot, yrowLength, f, youts, ytop, ykind, ywith, ysize, ysort, ymany, yuse, ytypeOf, yleast, ygreatest, ylisted, ytypeOfName, yused, yvalued, ygiven, yname, yparent, ychildren, ycount, yrow, yvalue, yattributes, en, lk, sh, youtKind, youtWith, ywork, yworkWith, yweight, yfollow, yfirsts, ylasts, ybare, ymet, ynameAt, ytokenAt, ytodo)) : wpY_examine post (yplace, yroot, yrowLength, yfirst, youts, ytop, ykind, ywith, ysize, ysort, ymany, yuse, ytypeOf, yleast, ygreatest, ylisted, ytypeOfName, yused, yvalued, ygiven, yname, yparent, ychildren, ycount, yrow, yvalue, yattributes, yends, ylack, yshortest, youtKind, youtWith, ywork, yworkWith, yweight, yfollow, yfirsts, ylasts, ybare, ymet, ynameAt, ytokenAt, ytodo) (nI t) (nI n) := by
  refine nm_r (e' := nI (16 * t)) (pk_mul 16 t) ⟨vp_in_nI (by omega) (by omega), nm_r (e' := nI (0 + ex_n R) + (-1)) (by rw [nb_cl (by omega), hs, nb_dec, Nat.zero_add]) ⟨1 + ex_n R, ?_⟩⟩
  refine sy_exT (w := w) (kd := kd) (vl := vl) (N := ex_n R) ht h16 hn hrow hK R 0 1 yshortest yends ylack hS hW hw (by omega) (fun sh en lk hP _ _ => br_t nb_d0 ?_)
  obtain ⟨b1, x, hx, hM⟩ := hP.2 0 (by omega)
  refine h _ sh en lk x ?_ hx (dp_M_cg hM hw (fun _ => Iff.rfl))
  rw [show en 0 = en (32 * 0 + 0) from rfl, b1 n]
  exact ⟨fun q => q.2.2, fun q => ⟨Nat.le_refl _, Nat.zero_le _, q⟩⟩
end
