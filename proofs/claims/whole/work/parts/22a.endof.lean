/-! ===== where an expression ends; the inner loops of the reference's tables ===== -/
theorem nb_pt (c p : Nat) : nI (c + 1) + (nI p - 1) = nI (c + p) := by
  have h1 : nI (c + 1) = nI c + 1 := (nI_1 c).symm
  have h2 : nI (c + p) = nI c + nI p := (nI_add c p).symm
  rw [h1, h2]
  grind
theorem ex_pt_leaf (k : Nat) (h : k = 0 ∨ k = 6) : ex_pt k = 0 := by
  rcases h with rfl | rfl <;> rfl
section
variable {yplace yroot yrowLength yfirst youts ytop : Int32} {ykind ywith ysize ysort ymany yuse ytypeOf yleast ygreatest ylisted ytypeOfName yused yvalued ygiven yname yparent ychildren ycount yrow yvalue yattributes yends ylack yshortest youtKind youtWith ywork yworkWith yweight yfollow yfirsts ylasts ybare ymet ynameAt ytokenAt ytodo : Nat → Int32}
/-- one token of the walk to the end of an expression -/
theorem sy_end1 {post : Int32 → Prop} {o j e c kk f : Nat} (hk : ykind (o + j) = nI kk) (hkk : kk < 9) (ho : o + j < 112) (he : o + j < e) (he2 : e < 200) (hc : c < 1000) (h : wY_endOf_5 post (nI e) yplace yroot yrowLength yfirst youts ytop ykind ywith ysize ysort ymany yuse ytypeOf yleast ygreatest ylisted ytypeOfName yused yvalued ygiven yname yparent ychildren ycount yrow yvalue yattributes yends ylack yshortest youtKind youtWith ywork yworkWith yweight yfollow yfirsts ylasts ybare ymet ynameAt ytokenAt ytodo f (nI (c + ex_pt kk)) (nI (o + j + 1))) : wY_endOf_5 post (nI e) yplace yroot yrowLength yfirst youts ytop ykind ywith ysize ysort ymany yuse ytypeOf yleast ygreatest ylisted ytypeOfName yused yvalued ygiven yname yparent ychildren ycount yrow yvalue yattributes yends ylack yshortest youtKind youtWith ywork yworkWith yweight yfollow yfirsts ylasts ybare ymet ynameAt ytokenAt ytodo (f + 1) (nI (c + 1)) (nI (o + j)) := by
  refine br_f (by rw [nb_le0 (by omega)]; omega) (br_f (nI_ge (by omega) (by omega)) ⟨vp_in_nI ho (by omega), ?_⟩)
  rw [nb_cl (by omega), hk]
  exact sy_parts hkk (nm_r (nb_pt c _) (nm_r (nI_1 _) h))
theorem sy_endT {post : Int32 → Prop} {o e N : Nat} {kd vl : Nat → Nat} (hK : rl_K ykind ywith o N kd vl) (hoN : o + N ≤ 112) (heN : o + N ≤ e) (he2 : e < 200) : ∀ (R : ex_T) (j c f : Nat), ex_S kd vl R j → j + ex_n R ≤ N → c + ex_n R ≤ 500 → wY_endOf_5 post (nI e) yplace yroot yrowLength yfirst youts ytop ykind ywith ysize ysort ymany yuse ytypeOf yleast ygreatest ylisted ytypeOfName yused yvalued ygiven yname yparent ychildren ycount yrow yvalue yattributes yends ylack yshortest youtKind youtWith ywork yworkWith yweight yfollow yfirsts ylasts ybare ymet ynameAt ytokenAt ytodo f (nI c) (nI (o + (j + ex_n R))) → wY_endOf_5 post (nI e) yplace yroot yrowLength yfirst youts ytop ykind ywith ysize ysort ymany yuse ytypeOf yleast ygreatest ylisted ytypeOfName yused yvalued ygiven yname yparent ychildren ycount yrow yvalue yattributes yends ylack yshortest youtKind youtWith ywork yworkWith yweight yfollow yfirsts ylasts ybare ymet ynameAt ytokenAt ytodo (f + ex_n R) (nI (c + 1)) (nI (o + j)) := by
  have step : ∀ (j c f kk : Nat), j < N → kd j = kk → c < 1000 → wY_endOf_5 post (nI e) yplace yroot yrowLength yfirst youts ytop ykind ywith ysize ysort ymany yuse ytypeOf yleast ygreatest ylisted ytypeOfName yused yvalued ygiven yname yparent ychildren ycount yrow yvalue yattributes yends ylack yshortest youtKind youtWith ywork yworkWith yweight yfollow yfirsts ylasts ybare ymet ynameAt ytokenAt ytodo f (nI (c + ex_pt kk)) (nI (o + j + 1)) → wY_endOf_5 post (nI e) yplace yroot yrowLength yfirst youts ytop ykind ywith ysize ysort ymany yuse ytypeOf yleast ygreatest ylisted ytypeOfName yused yvalued ygiven yname yparent ychildren ycount yrow yvalue yattributes yends ylack yshortest youtKind youtWith ywork yworkWith yweight yfollow yfirsts ylasts ybare ymet ynameAt ytokenAt ytodo (f + 1) (nI (c + 1)) (nI (o + j)) := by
    intro j c f kk hj hkk hc h
    obtain ⟨a1, a2, _⟩ := hK j hj
    rw [hkk] at a1 a2
    exact sy_end1 a1 a2 (by omega) (by omega) he2 hc h
  intro R
  induction R with
  | num k =>
    intro j c f hS hn hc h
    exact step j c f 6 (by simp only [ex_n] at hn; omega) hS (by simp only [ex_n] at hc; omega) h
  | natCast k => intro j c f hS; exact hS.elim
  | intCast k => intro j c f hS; exact hS.elim
  | var i =>
    intro j c f hS hn hc h
    exact step j c f 0 (by simp only [ex_n] at hn; omega) hS.1 (by simp only [ex_n] at hc; omega) h
  | neg a ih =>
    intro j c f hS hn hc h
    simp only [ex_n] at hn hc h ⊢
    obtain ⟨s1, s2⟩ := hS
    rw [show f + (1 + ex_n a) = (f + ex_n a) + 1 by omega]
    refine step j c _ 3 (by omega) s1 (by omega) ?_
    refine ih (j + 1) c f s2 (by omega) (by omega) ?_
    rw [show o + (j + 1 + ex_n a) = o + (j + (1 + ex_n a)) by omega]
    exact h
  | pow a k ih =>
    intro j c f hS hn hc h
    simp only [ex_n] at hn hc h ⊢
    obtain ⟨s1, s2⟩ := hS
    rw [show f + (1 + ex_n a) = (f + ex_n a) + 1 by omega]
    have go : wY_endOf_5 post (nI e) yplace yroot yrowLength yfirst youts ytop ykind ywith ysize ysort ymany yuse ytypeOf yleast ygreatest ylisted ytypeOfName yused yvalued ygiven yname yparent ychildren ycount yrow yvalue yattributes yends ylack yshortest youtKind youtWith ywork yworkWith yweight yfollow yfirsts ylasts ybare ymet ynameAt ytokenAt ytodo (f + ex_n a) (nI (c + 1)) (nI (o + j + 1)) := by
      refine ih (j + 1) c f s2 (by omega) (by omega) ?_
      rw [show o + (j + 1 + ex_n a) = o + (j + (1 + ex_n a)) by omega]
      exact h
    rcases s1 with ⟨_, s1, _⟩ | ⟨_, s1⟩ | ⟨_, s1⟩
    · exact step j c _ 8 (by omega) s1 (by omega) go
    · exact step j c _ 4 (by omega) s1 (by omega) go
    · exact step j c _ 5 (by omega) s1 (by omega) go
  | add a b iha ihb =>
    intro j c f hS hn hc h
    simp only [ex_n] at hn hc h ⊢
    obtain ⟨s1, s2, s3⟩ := hS
    rw [show f + (1 + ex_n a + ex_n b) = (f + ex_n b + ex_n a) + 1 by omega]
    refine step j c _ 2 (by omega) s1 (by omega) ?_
    refine iha (j + 1) (c + 1) (f + ex_n b) s2 (by omega) (by have := ex_n_pos b; omega) ?_
    refine ihb (j + 1 + ex_n a) c f s3 (by omega) (by omega) ?_
    rw [show o + (j + 1 + ex_n a + ex_n b) = o + (j + (1 + ex_n a + ex_n b)) by omega]
    exact h
  | mul a b iha ihb =>
    intro j c f hS hn hc h
    simp only [ex_n] at hn hc h ⊢
    obtain ⟨s1, s2, s3⟩ := hS
    rw [show f + (1 + ex_n a + ex_n b) = (f + ex_n b + ex_n a) + 1 by omega]
    refine step j c _ 1 (by omega) s1 (by omega) ?_
    refine iha (j + 1) (c + 1) (f + ex_n b) s2 (by omega) (by have := ex_n_pos b; omega) ?_
    refine ihb (j + 1 + ex_n a) c f s3 (by omega) (by omega) ?_
    rw [show o + (j + 1 + ex_n a + ex_n b) = o + (j + (1 + ex_n a + ex_n b)) by omega]
    exact h
  | sub a b iha ihb =>
    intro j c f hS hn hc h
    simp only [ex_n] at hn hc h ⊢
    obtain ⟨s1, s2, s3⟩ := hS
    rw [show f + (1 + ex_n a + ex_n b) = (f + ex_n b + ex_n a) + 1 by omega]
    refine step j c _ 7 (by omega) s1 (by omega) ?_
    refine iha (j + 1) (c + 1) (f + ex_n b) s2 (by omega) (by have := ex_n_pos b; omega) ?_
    refine ihb (j + 1 + ex_n a) c f s3 (by omega) (by omega) ?_
    rw [show o + (j + 1 + ex_n a + ex_n b) = o + (j + (1 + ex_n a + ex_n b)) by omega]
    exact h
theorem sy_endOf {post : Int32 → Prop} {o e N j : Nat} {kd vl : Nat → Nat} {R : ex_T} (hK : rl_K ykind ywith o N kd vl) (hoN : o + N ≤ 112) (heN : o + N ≤ e) (he2 : e < 200) (hS : ex_S kd vl R j) (hn : j + ex_n R ≤ N) (h : post (nI (o + (j + ex_n R)))) : wpY_endOf post (yplace, yroot, yrowLength, yfirst, youts, ytop, ykind, ywith, ysize, ysort, ymany, yuse, ytypeOf, yleast, ygreatest, ylisted, ytypeOfName, yused, yvalued, ygiven, yname, yparent, ychildren, ycount, yrow, yvalue, yattributes, yends, ylack, yshortest, youtKind, youtWith, ywork, yworkWith, yweight, yfollow, yfirsts, ylasts, ybare, ymet, ynameAt, ytokenAt, ytodo) (nI (o + j)) (nI e) :=
  ⟨1 + ex_n R, sy_endT hK hoN heN he2 R j 0 1 hS hn (by omega) (br_t (by decide) (br_t (by decide) h))⟩
theorem sy_second {post : Int32 → Prop} {t j N : Nat} {kd vl : Nat → Nat} {R : ex_T} (ht : t < 6) (hN : N ≤ 16) (hK : rl_K ykind ywith (16 * t) N kd vl) (hS : ex_S kd vl R (j + 1)) (hn : j + 1 + ex_n R ≤ N) (h : post (nI (j + 1 + ex_n R))) : wpY_second post (yplace, yroot, yrowLength, nI (16 * t), youts, ytop, ykind, ywith, ysize, ysort, ymany, yuse, ytypeOf, yleast, ygreatest, ylisted, ytypeOfName, yused, yvalued, ygiven, yname, yparent, ychildren, ycount, yrow, yvalue, yattributes, yends, ylack, yshortest, youtKind, youtWith, ywork, yworkWith, yweight, yfollow, yfirsts, ylasts, ybare, ymet, ynameAt, ytokenAt, ytodo) (nI j) := by
  unfold wpY_second
  dsimp only
  rw [nI_add, nI_1, show (16 : Int32) = nI 16 from rfl, nI_add]
  refine sy_endOf (o := 16 * t) (j := j + 1) hK (by omega) (by omega) (by omega) hS hn ?_
  rw [pk_sub (by omega), show 16 * t + (j + 1 + ex_n R) - 16 * t = j + 1 + ex_n R by omega]
  exact h
theorem nb_32m (t i : Nat) : 32 * nI t + nI i = nI (32 * t + i) := by
  show nI 32 * nI t + nI i = _
  rw [pk_mul, nI_add]
theorem sy_keep {post : SY → Prop} {b a : Nat} {E F : Int32} (hb : b < 16) (ha : a < 32) (h : post (yplace, yroot, yrowLength, yfirst, youts, ytop, ykind, ywith, ysize, ysort, ymany, yuse, ytypeOf, yleast, ygreatest, ylisted, ytypeOfName, yused, yvalued, ygiven, yname, yparent, ychildren, ycount, yrow, yvalue, yattributes, upd yends (32 * b + a) E, upd ylack (32 * b + a) F, yshortest, youtKind, youtWith, ywork, yworkWith, yweight, yfollow, yfirsts, ylasts, ybare, ymet, ynameAt, ytokenAt, ytodo)) : wpY_keep post (yplace, yroot, yrowLength, yfirst, youts, ytop, ykind, ywith, ysize, ysort, ymany, yuse, ytypeOf, yleast, ygreatest, ylisted, ytypeOfName, yused, yvalued, ygiven, yname, yparent, ychildren, ycount, yrow, yvalue, yattributes, yends, ylack, yshortest, youtKind, youtWith, ywork, yworkWith, yweight, yfollow, yfirsts, ylasts, ybare, ymet, ynameAt, ytokenAt, ytodo) (nI b) (nI a) E F := by
  unfold wpY_keep
  dsimp only
  rw [nb_32m, nb_cl (by omega)]
  exact ⟨vp_in_nI (by omega) (by omega), nm_e ⟨vp_in_nI (by omega) (by omega), nm_e h⟩⟩
theorem sy_less {post : Int32 → Prop} {x y : Nat} (hx : x < 2 ^ 31) (hy : y < 2 ^ 31) (h : post (nI (if x < y then x else y))) : wpY_lesser post (nI x) (nI y) := by
  refine pk_le y x (fun hle => ?_) (fun hlt => ?_)
  · rw [if_neg (by omega)] at h; exact h
  · rw [if_pos hlt] at h; exact h
theorem sy_aft6 {post : Int32 → Prop} {x y a : Nat} (hx : x < 16) (hy : y < 16) (ha : a < 32) (h : ∀ r : Int32, (∀ k, bt r k = true ↔ ∃ m, a ≤ m ∧ m < 32 ∧ bt (yends (32 * x + a)) m = true ∧ bt (yends (32 * y + m)) k = true) → post r) : ∀ (n i : Nat) (X : Int32), i + n = 32 → a ≤ i → (∀ k, bt X k = true ↔ ∃ m, a ≤ m ∧ m < i ∧ bt (yends (32 * x + a)) m = true ∧ bt (yends (32 * y + m)) k = true) → wY_after_6 post (nI x) (nI y) (nI a) yplace yroot yrowLength yfirst youts ytop ykind ywith ysize ysort ymany yuse ytypeOf yleast ygreatest ylisted ytypeOfName yused yvalued ygiven yname yparent ychildren ycount yrow yvalue yattributes yends ylack yshortest youtKind youtWith ywork yworkWith yweight yfollow yfirsts ylasts ybare ymet ynameAt ytokenAt ytodo (n + 1) X (nI i) := by
  intro n
  induction n with
  | zero =>
    intro i X hi hai hX
    obtain rfl : i = 32 := by omega
    exact br_t (by decide) (h X hX)
  | succ n ih =>
    intro i X hi hai hX
    refine br_f (nI_ge (b := 32) (by omega) (by omega)) ?_
    rw [nb_32m x a, nb_32m y i, nb_cl (n := 32 * x + a) (by omega), nb_cl (n := 32 * y + i) (by omega)]
    refine ⟨vp_in_nI (by omega) (by omega), ?_⟩
    cases hb : bt (yends (32 * x + a)) i with
    | false =>
      refine br_t ((bb_t _ (by omega)).mpr hb) (nm_r (nI_1 i) (ih (i + 1) X (by omega) (by omega) (fun k => ?_)))
      rw [hX k]
      constructor
      · rintro ⟨m, m1, m2, m3⟩; exact ⟨m, m1, by omega, m3⟩
      · rintro ⟨m, m1, m2, m3, m4⟩
        refine ⟨m, m1, ?_, m3, m4⟩
        have : m ≠ i := fun q => by rw [q, hb] at m3; cases m3
        omega
    | true =>
      refine br_f ((bb_t' _ (by omega)).mpr hb) ⟨vp_in_nI (by omega) (by omega), nm_e (nm_r (nI_1 i) (ih (i + 1) _ (by omega) (by omega) (fun k => ?_)))⟩
      rw [bb_orI, hX k]
      constructor
      · rintro (⟨m, m1, m2, m3⟩ | q)
        · exact ⟨m, m1, by omega, m3⟩
        · exact ⟨i, hai, by omega, hb, q⟩
      · rintro ⟨m, m1, m2, m3, m4⟩
        by_cases q : m = i
        · rw [q] at m4; exact Or.inr m4
        · exact Or.inl ⟨m, m1, by omega, m3, m4⟩
theorem sy_after {post : Int32 → Prop} {x y a : Nat} (hx : x < 16) (hy : y < 16) (ha : a < 32) (h : ∀ r : Int32, (∀ k, bt r k = true ↔ ∃ m, a ≤ m ∧ m < 32 ∧ bt (yends (32 * x + a)) m = true ∧ bt (yends (32 * y + m)) k = true) → post r) : wpY_after post (yplace, yroot, yrowLength, yfirst, youts, ytop, ykind, ywith, ysize, ysort, ymany, yuse, ytypeOf, yleast, ygreatest, ylisted, ytypeOfName, yused, yvalued, ygiven, yname, yparent, ychildren, ycount, yrow, yvalue, yattributes, yends, ylack, yshortest, youtKind, youtWith, ywork, yworkWith, yweight, yfollow, yfirsts, ylasts, ybare, ymet, ynameAt, ytokenAt, ytodo) (nI x) (nI y) (nI a) :=
  ⟨32 - a + 1, sy_aft6 hx hy ha h (32 - a) a 0 (by omega) (Nat.le_refl _) (fun k => by
    rw [b_0]
    exact ⟨fun q => absurd q Bool.false_ne_true, fun ⟨m, m1, m2, _⟩ => by omega⟩)⟩
/-- few: the least of z and the lacks of y behind each end -/
theorem sy_lak28 {post : Int32 → Prop} {x y a z : Nat} {lk : Nat → Nat} (hx : x < 16) (hy : y < 16) (ha : a < 32) (hz : z ≤ 100000) (hl : ∀ m, m < 32 → bt (yends (32 * x + a)) m = true → ylack (32 * y + m) = nI (lk m) ∧ lk m ≤ 100000) (h : ∀ f, f ≤ z → (∀ m, a ≤ m → m < 32 → bt (yends (32 * x + a)) m = true → f ≤ lk m) → (f = z ∨ ∃ m, a ≤ m ∧ m < 32 ∧ bt (yends (32 * x + a)) m = true ∧ f = lk m) → post (nI f)) : ∀ (n i f : Nat), i + n = 32 → a ≤ i → f ≤ z → (∀ m, a ≤ m → m < i → bt (yends (32 * x + a)) m = true → f ≤ lk m) → (f = z ∨ ∃ m, a ≤ m ∧ m < 32 ∧ bt (yends (32 * x + a)) m = true ∧ f = lk m) → wY_lackOf_28 post (nI x) (nI y) (nI a) yplace yroot yrowLength yfirst youts ytop ykind ywith ysize ysort ymany yuse ytypeOf yleast ygreatest ylisted ytypeOfName yused yvalued ygiven yname yparent ychildren ycount yrow yvalue yattributes yends ylack yshortest youtKind youtWith ywork yworkWith yweight yfollow yfirsts ylasts ybare ymet ynameAt ytokenAt ytodo (n + 1) (nI f) (nI i) := by
  intro n
  induction n with
  | zero =>
    intro i f hi hai f1 f2 f3
    obtain rfl : i = 32 := by omega
    exact br_t (by decide) (h f f1 f2 f3)
  | succ n ih =>
    intro i f hi hai f1 f2 f3
    refine br_f (nI_ge (b := 32) (by omega) (by omega)) ?_
    rw [nb_32m x a, nb_32m y i, nb_cl (n := 32 * x + a) (by omega), nb_cl (n := 32 * y + i) (by omega)]
    refine ⟨vp_in_nI (by omega) (by omega), ?_⟩
    cases hb : bt (yends (32 * x + a)) i with
    | false =>
      refine br_t ((bb_t _ (by omega)).mpr hb) (nm_r (nI_1 i) (ih (i + 1) f (by omega) (by omega) f1 (fun m m1 m2 m3 => ?_) f3))
      have : m ≠ i := fun q => by rw [q, hb] at m3; cases m3
      exact f2 m m1 (by omega) m3
    | true =>
      obtain ⟨l1, l2⟩ := hl i (by omega) hb
      refine br_f ((bb_t' _ (by omega)).mpr hb) ⟨vp_in_nI (by omega) (by omega), ?_⟩
      rw [l1]
      refine sy_less (by omega) (by omega) (nm_r (nI_1 i) (ih (i + 1) _ (by omega) (by omega) ?_ (fun m m1 m2 m3 => ?_) ?_))
      · split <;> omega
      · by_cases q : m = i
        · rw [q]; split <;> omega
        · have := f2 m m1 (by omega) m3
          split <;> omega
      · by_cases q : f < lk i
        · rw [if_pos q]; exact f3
        · rw [if_neg q]; exact Or.inr ⟨i, hai, by omega, hb, rfl⟩
theorem sy_lackOf {post : Int32 → Prop} {x y a p s : Nat} {lk : Nat → Nat} (hx : x < 16) (hy : y < 16) (ha : a < 32) (hp : ylack (32 * x + a) = nI p) (hp1 : p ≤ 100000) (hs : yshortest y = nI s) (hs1 : s ≤ 1000) (hl : ∀ m, m < 32 → bt (yends (32 * x + a)) m = true → ylack (32 * y + m) = nI (lk m) ∧ lk m ≤ 100000) (h : ∀ f, f ≤ 100000 → f ≤ p + s → (∀ m, a ≤ m → m < 32 → bt (yends (32 * x + a)) m = true → f ≤ lk m) → (f = 100000 ∨ f = p + s ∨ ∃ m, a ≤ m ∧ m < 32 ∧ bt (yends (32 * x + a)) m = true ∧ f = lk m) → post (nI f)) : wpY_lackOf post (yplace, yroot, yrowLength, yfirst, youts, ytop, ykind, ywith, ysize, ysort, ymany, yuse, ytypeOf, yleast, ygreatest, ylisted, ytypeOfName, yused, yvalued, ygiven, yname, yparent, ychildren, ycount, yrow, yvalue, yattributes, yends, ylack, yshortest, youtKind, youtWith, ywork, yworkWith, yweight, yfollow, yfirsts, ylasts, ybare, ymet, ynameAt, ytokenAt, ytodo) (nI x) (nI y) (nI a) := by
  unfold wpY_lackOf
  dsimp only
  rw [nb_32m, nb_cl (n := 32 * x + a) (by omega), nb_cl (n := y) (by omega), hp, hs, nI_add]
  refine ⟨vp_in_nI (by omega) (by omega), vp_in_nI hy (by omega), sy_less (y := 100000) (by omega) (by omega) ⟨32 - a + 1, ?_⟩⟩
  refine sy_lak28 (z := if p + s < 100000 then p + s else 100000) hx hy ha (by split <;> omega) hl (fun f f1 f2 f3 => h f ?_ ?_ f2 ?_) (32 - a) a _ (by omega) (Nat.le_refl _) (Nat.le_refl _) (fun m m1 m2 => by omega) (Or.inl rfl)
  · split at f1 <;> omega
  · split at f1 <;> omega
  · rcases f3 with q | q
    · split at q
      · exact Or.inr (Or.inl q)
      · exact Or.inl q
    · exact Or.inr (Or.inr q)
end
