/-! ===== STAR, PLUS and TIMES in the reference's tables ===== -/
theorem dp_ch_pre {L : List Nat → Prop} {w : Nat → Nat} {j a : Nat} : ∀ d m, dp_ch L w (j + d) a m → ∃ m', m' ≤ m ∧ dp_ch L w j a m' := by
  intro d
  induction d with
  | zero => intro m h; exact ⟨m, Nat.le_refl _, h⟩
  | succ d ih =>
    rintro m ⟨k, h1, h2⟩
    obtain ⟨m', h3, h4⟩ := ih k h1
    exact ⟨m', Nat.le_trans h3 h2.1, h4⟩
section
variable {yplace yroot yrowLength yfirst youts ytop : Int32} {ykind ywith ysize ysort ymany yuse ytypeOf yleast ygreatest ylisted ytypeOfName yused yvalued ygiven yname yparent ychildren ycount yrow yvalue yattributes yends ylack yshortest youtKind youtWith ywork yworkWith yweight yfollow yfirsts ylasts ybare ymet ynameAt ytokenAt ytodo : Nat → Int32}
theorem sy_w81 {post : SY → Prop} {J : Int32 → Int32 → Int32 → Int32 → Int32 → Prop} {b a n lo hi j s f0 : Nat} {lk : Nat → Nat} {x7 x9 x10 : Int32} (hb : b + 1 < 16) (hn : n ≤ 24) (hlo : lo ≤ 3) (hhi : hi ≤ 100) (hjhi : j < hi) (hs : yshortest (b + 1) = nI s) (hs1 : s ≤ 30) (hl : ∀ m, m ≤ n → ylack (32 * (b + 1) + m) = nI (lk m) ∧ lk m ≤ 100000) (hf0 : f0 ≤ 100000)
    (h : ∀ (f : Nat) (X : Int32), (∀ k, bt X k = true ↔ ∃ m, a ≤ m ∧ m ≤ n ∧ bt x9 m = true ∧ bt (yends (32 * (b + 1) + m)) k = true) → f ≤ f0 → (∀ m, a ≤ m → m ≤ n → bt x9 m = true → f ≤ lk m + (lo - 1 - j) * s) → (f = f0 ∨ ∃ m, a ≤ m ∧ m ≤ n ∧ bt x9 m = true ∧ f = lk m + (lo - 1 - j) * s) → wY_words_184 post J (nI b) (nI a) (nI n) (nI lo) (nI hi) (nI (b + 1)) x7 (nI f) x9 x10 (nI j) X yplace yroot yrowLength yfirst youts ytop ykind ywith ysize ysort ymany yuse ytypeOf yleast ygreatest ylisted ytypeOfName yused yvalued ygiven yname yparent ychildren ycount yrow yvalue yattributes yends ylack yshortest youtKind youtWith ywork yworkWith yweight yfollow yfirsts ylasts ybare ymet ynameAt ytokenAt ytodo) :
    ∀ (c i f : Nat) (X : Int32), i + c = n + 1 → a ≤ i → (∀ k, bt X k = true ↔ ∃ m, a ≤ m ∧ m < i ∧ bt x9 m = true ∧ bt (yends (32 * (b + 1) + m)) k = true) → f ≤ f0 → (∀ m, a ≤ m → m < i → bt x9 m = true → f ≤ lk m + (lo - 1 - j) * s) → (f = f0 ∨ ∃ m, a ≤ m ∧ m ≤ n ∧ bt x9 m = true ∧ f = lk m + (lo - 1 - j) * s) → wY_words_81 post J (nI b) (nI a) (nI n) (nI lo) (nI hi) (nI (b + 1)) x7 x9 x10 (nI j) yplace yroot yrowLength yfirst youts ytop ykind ywith ysize ysort ymany yuse ytypeOf yleast ygreatest ylisted ytypeOfName yused yvalued ygiven yname yparent ychildren ycount yrow yvalue yattributes yends ylack yshortest youtKind youtWith ywork yworkWith yweight yfollow yfirsts ylasts ybare ymet ynameAt ytokenAt ytodo (c + 1) (nI f) X (nI i) := by
  have mo : (lo - 1 - j) * s ≤ 2 * 30 := Nat.mul_le_mul (by omega) hs1
  intro c
  induction c with
  | zero =>
    intro i f X hi' hai hX f1 f2 f3
    refine br_t (nI_lt (by omega) (by omega)) (h f X (fun k => ?_) f1 (fun m m1 m2 m3 => f2 m m1 (by omega) m3) f3)
    rw [hX k]
    constructor
    · rintro ⟨m, m1, m2, m3⟩; exact ⟨m, m1, by omega, m3⟩
    · rintro ⟨m, m1, m2, m3⟩; exact ⟨m, m1, by omega, m3⟩
  | succ c ih =>
    intro i f X hi' hai hX f1 f2 f3
    refine br_f (nI_nlt (by omega) (by omega)) (br_f (nI_ge hjhi (by omega)) ?_)
    cases hbt : bt x9 i with
    | false =>
      have ne : ∀ m, bt x9 m = true → m ≠ i := fun m q1 q2 => by rw [q2, hbt] at q1; cases q1
      refine br_t ((bb_t _ (by omega)).mpr hbt) (nm_r (nI_1 i) (ih (i + 1) f X (by omega) (by omega) (fun k => ?_) f1 (fun m m1 m2 m3 => f2 m m1 (by have := ne m m3; omega) m3) f3))
      rw [hX k]
      constructor
      · rintro ⟨m, m1, m2, m3⟩; exact ⟨m, m1, by omega, m3⟩
      · rintro ⟨m, m1, m2, m3, m4⟩; exact ⟨m, m1, by have := ne m m3; omega, m3, m4⟩
    | true =>
      obtain ⟨l1, l2⟩ := hl i (by omega)
      refine br_f ((bb_t' _ (by omega)).mpr hbt) ?_
      rw [nb_32m, nb_cl (n := 32 * (b + 1) + i) (by omega)]
      refine ⟨vp_in_nI (by omega) (by omega), nm_e ?_⟩
      have key : wY_words_153 post J (wY_words_81 post J (nI b) (nI a) (nI n) (nI lo) (nI hi) (nI (b + 1)) x7 x9 x10 (nI j) yplace yroot yrowLength yfirst youts ytop ykind ywith ysize ysort ymany yuse ytypeOf yleast ygreatest ylisted ytypeOfName yused yvalued ygiven yname yparent ychildren ycount yrow yvalue yattributes yends ylack yshortest youtKind youtWith ywork yworkWith yweight yfollow yfirsts ylasts ybare ymet ynameAt ytokenAt ytodo (c + 1)) (nI b) (nI a) (nI n) (nI lo) (nI hi) (nI (b + 1)) x7 (nI f) x9 x10 (nI j) (X ||| yends (32 * (b + 1) + i)) (nI i) (nI ((lo - 1 - j) * s)) yplace yroot yrowLength yfirst youts ytop ykind ywith ysize ysort ymany yuse ytypeOf yleast ygreatest ylisted ytypeOfName yused yvalued ygiven yname yparent ychildren ycount yrow yvalue yattributes yends ylack yshortest youtKind youtWith ywork yworkWith yweight yfollow yfirsts ylasts ybare ymet ynameAt ytokenAt ytodo := by
        unfold wY_words_153
        rw [nb_32m, nb_cl (n := 32 * (b + 1) + i) (by omega), l1, nI_add]
        refine ⟨vp_in_nI (by omega) (by omega), sy_less (by omega) (by omega) (nm_r (nI_1 i) (ih (i + 1) _ _ (by omega) (by omega) (fun k => ?_) ?_ (fun m m1 m2 m3 => ?_) ?_))⟩
        · rw [bb_orI, hX k]
          constructor
          · rintro (⟨m, m1, m2, m3⟩ | q)
            · exact ⟨m, m1, by omega, m3⟩
            · exact ⟨i, hai, by omega, hbt, q⟩
          · rintro ⟨m, m1, m2, m3, m4⟩
            by_cases q : m = i
            · rw [q] at m4; exact Or.inr m4
            · exact Or.inl ⟨m, m1, by omega, m3, m4⟩
        · split <;> omega
        · by_cases q : m = i
          · rw [q]; split <;> omega
          · have := f2 m m1 (by omega) m3
            split <;> omega
        · by_cases q : f < lk i + (lo - 1 - j) * s
          · rw [if_pos q]; exact f3
          · rw [if_neg q]; exact Or.inr ⟨i, hai, by omega, hbt, rfl⟩
      rw [nI_1 j]
      refine pk_le lo (j + 1) (fun hle => ?_) (fun hgt => ?_)
      · have e0 : (lo - 1 - j) * s = 0 := by rw [show lo - 1 - j = 0 by omega, Nat.zero_mul]
        rw [e0] at key
        exact key
      · refine ⟨vp_in_nI (by omega) (by omega), ?_⟩
        rw [nb_cl (n := b + 1) (by omega), hs, nb_s1 (by omega), pk_sub (by omega), pk_mul]
        exact key
/-- few before the inner loop -/
theorem sy_w56 {post : SY → Prop} {J : Int32 → Int32 → Int32 → Int32 → Int32 → Prop} {b a n lo hi j f : Nat} {x7 x9 x10 : Int32} (hn : n ≤ 24) (hj : j < 60) (hlo : lo ≤ 3) (h : ∀ f0, (f0 = f ∧ (lo ≤ j → bt x9 n = false)) ∨ (f0 = 0 ∧ lo ≤ j ∧ bt x9 n = true) → ∃ n81, wY_words_81 post J (nI b) (nI a) (nI n) (nI lo) (nI hi) (nI (b + 1)) x7 x9 x10 (nI j) yplace yroot yrowLength yfirst youts ytop ykind ywith ysize ysort ymany yuse ytypeOf yleast ygreatest ylisted ytypeOfName yused yvalued ygiven yname yparent ychildren ycount yrow yvalue yattributes yends ylack yshortest youtKind youtWith ywork yworkWith yweight yfollow yfirsts ylasts ybare ymet ynameAt ytokenAt ytodo n81 (nI f0) 0 (nI a)) : wY_words_56 post J (nI b) (nI a) (nI n) (nI lo) (nI hi) (nI (b + 1)) x7 (nI f) x9 x10 (nI j) yplace yroot yrowLength yfirst youts ytop ykind ywith ysize ysort ymany yuse ytypeOf yleast ygreatest ylisted ytypeOfName yused yvalued ygiven yname yparent ychildren ycount yrow yvalue yattributes yends ylack yshortest youtKind youtWith ywork yworkWith yweight yfollow yfirsts ylasts ybare ymet ynameAt ytokenAt ytodo := by
  refine pk_lt j lo (fun hlt => h f (Or.inl ⟨rfl, fun q => by omega⟩)) (fun hge => ?_)
  cases hb : bt x9 n with
  | false => exact br_t ((bb_t _ (by omega)).mpr hb) (h f (Or.inl ⟨rfl, fun _ => hb⟩))
  | true => exact br_f ((bb_t' _ (by omega)).mpr hb) (h 0 (Or.inr ⟨rfl, hge, hb⟩))
/-- TIMES -/
theorem sy_wT {post : SY → Prop} {b a n lo hi s : Nat} {w lk : Nat → Nat} {L : List Nat → Prop} (hb : b + 1 < 16) (ha : a ≤ n) (hn : n ≤ 24) (hlh : lo ≤ hi) (hhi : hi ≤ 3) (hs : yshortest (b + 1) = nI s) (hs1 : s ≤ 30) (hl : ∀ m, m ≤ n → ylack (32 * (b + 1) + m) = nI (lk m) ∧ lk m ≤ 100000) (hE : ∀ m, m ≤ n → ∀ k, bt (yends (32 * (b + 1) + m)) k = true ↔ k ≤ n ∧ dp_E L w m k)
    (h : ∀ (S : Int32) (f : Nat), (∀ m, bt S m = true ↔ m ≤ n ∧ ∃ i, lo ≤ i ∧ i ≤ hi ∧ dp_ch L w i a m) → (f = 100000 ∨ (f = 0 ∧ bt S n = true) ∨ ∃ i m, i < hi ∧ m ≤ n ∧ dp_ch L w i a m ∧ f = lk m + (lo - 1 - i) * s) → (bt S n = true → f = 0) → (∀ i m, i < hi → m ≤ n → dp_ch L w i a m → f ≤ lk m + (lo - 1 - i) * s) → f ≤ 100000 → wY_words_224 post (nI b) (nI a) S (nI f) yplace yroot yrowLength yfirst youts ytop ykind ywith ysize ysort ymany yuse ytypeOf yleast ygreatest ylisted ytypeOfName yused yvalued ygiven yname yparent ychildren ycount yrow yvalue yattributes yends ylack yshortest youtKind youtWith ywork yworkWith yweight yfollow yfirsts ylasts ybare ymet ynameAt ytokenAt ytodo) :
    ∀ (c j f : Nat) (S N A : Int32), j + c = hi + 1 → (j ≤ hi → ∀ m, bt N m = true ↔ m ≤ n ∧ dp_ch L w j a m) → (∀ m, bt S m = true ↔ m ≤ n ∧ ∃ i, i < j ∧ lo ≤ i ∧ dp_ch L w i a m) → (f = 100000 ∨ (f = 0 ∧ bt S n = true) ∨ ∃ i m, i < j ∧ i < hi ∧ m ≤ n ∧ dp_ch L w i a m ∧ f = lk m + (lo - 1 - i) * s) → (bt S n = true → f = 0) → (∀ i m, i < j → i < hi → m ≤ n → dp_ch L w i a m → f ≤ lk m + (lo - 1 - i) * s) → f ≤ 100000 → wY_words_23 post (nI b) (nI a) (nI n) (nI lo) (nI hi) (nI (b + 1)) yplace yroot yrowLength yfirst youts ytop ykind ywith ysize ysort ymany yuse ytypeOf yleast ygreatest ylisted ytypeOfName yused yvalued ygiven yname yparent ychildren ycount yrow yvalue yattributes yends ylack yshortest youtKind youtWith ywork yworkWith yweight yfollow yfirsts ylasts ybare ymet ynameAt ytokenAt ytodo (c + 1) S (nI f) N A (nI j) := by
  intro c
  induction c with
  | zero =>
    intro j f S N A hj hN hS f1 f2 f3 f4
    refine br_t (nI_lt (by omega) (by omega)) (h S f (fun m => ?_) ?_ f2 (fun i m h1 h2 h3 => f3 i m (by omega) h1 h2 h3) f4)
    · rw [hS m]
      constructor
      · rintro ⟨q, i, i1, i2, i3⟩; exact ⟨q, i, i2, by omega, i3⟩
      · rintro ⟨q, i, i1, i2, i3⟩; exact ⟨q, i, by omega, i1, i3⟩
    · rcases f1 with q | q | ⟨i, m, _, q⟩
      · exact Or.inl q
      · exact Or.inr (Or.inl q)
      · exact Or.inr (Or.inr ⟨i, m, q⟩)
  | succ c ih =>
    intro j f S N A hj hN hS f1 f2 f3 f4
    have hN' := hN (by omega)
    refine br_f (nI_nlt (by omega) (by omega)) (br_f (nI_ge (b := 60) (by omega) (by omega)) ?_)
    by_cases N0 : N = 0
    · have none : ∀ i m, j ≤ i → m ≤ n → ¬ dp_ch L w i a m := by
        intro i m hi' hm hc
        rw [show i = j + (i - j) by omega] at hc
        obtain ⟨m', q1, q2⟩ := dp_ch_pre (i - j) m hc
        have := (hN' m').mpr ⟨by omega, q2⟩
        rw [N0, b_0] at this
        cases this
      refine br_t N0 (h S f (fun m => ?_) ?_ f2 (fun i m h1 h2 h3 => ?_) f4)
      · rw [hS m]
        constructor
        · rintro ⟨q, i, i1, i2, i3⟩; exact ⟨q, i, i2, by omega, i3⟩
        · rintro ⟨q, i, i1, i2, i3⟩
          refine ⟨q, i, ?_, i1, i3⟩
          rcases Nat.lt_or_ge i j with q2 | q2
          · exact q2
          · exact absurd i3 (none i m q2 q)
      · rcases f1 with q | q | ⟨i, m, _, q⟩
        · exact Or.inl q
        · exact Or.inr (Or.inl q)
        · exact Or.inr (Or.inr ⟨i, m, q⟩)
      · rcases Nat.lt_or_ge i j with q2 | q2
        · exact f3 i m q2 h1 h2 h3
        · exact absurd h3 (none i m q2 h2)
    · refine br_f N0 ?_
      have go : ∀ S' : Int32, (∀ m, bt S' m = true ↔ m ≤ n ∧ ∃ i, i < j + 1 ∧ lo ≤ i ∧ dp_ch L w i a m) → wY_words_56 post (wY_words_23 post (nI b) (nI a) (nI n) (nI lo) (nI hi) (nI (b + 1)) yplace yroot yrowLength yfirst youts ytop ykind ywith ysize ysort ymany yuse ytypeOf yleast ygreatest ylisted ytypeOfName yused yvalued ygiven yname yparent ychildren ycount yrow yvalue yattributes yends ylack yshortest youtKind youtWith ywork yworkWith yweight yfollow yfirsts ylasts ybare ymet ynameAt ytokenAt ytodo (c + 1)) (nI b) (nI a) (nI n) (nI lo) (nI hi) (nI (b + 1)) S' (nI f) N A (nI j) yplace yroot yrowLength yfirst youts ytop ykind ywith ysize ysort ymany yuse ytypeOf yleast ygreatest ylisted ytypeOfName yused yvalued ygiven yname yparent ychildren ycount yrow yvalue yattributes yends ylack yshortest youtKind youtWith ywork yworkWith yweight yfollow yfirsts ylasts ybare ymet ynameAt ytokenAt ytodo := by
        intro S' hS'
        have hSS : ∀ m, bt S m = true → bt S' m = true := by
          intro m q
          obtain ⟨q1, i, i1, i2⟩ := (hS m).mp q
          exact (hS' m).mpr ⟨q1, i, by omega, i2⟩
        refine sy_w56 hn (by omega) (by omega) (fun f0 hf0 => ?_)
        have f0le : f0 ≤ 100000 := by rcases hf0 with q | q <;> omega
        have g1 : f0 = 100000 ∨ (f0 = 0 ∧ bt S' n = true) ∨ ∃ i m, i < j ∧ i < hi ∧ m ≤ n ∧ dp_ch L w i a m ∧ f0 = lk m + (lo - 1 - i) * s := by
          rcases hf0 with ⟨q, _⟩ | ⟨q, q2, q3⟩
          · rw [q]
            rcases f1 with q | ⟨q, q2⟩ | q
            · exact Or.inl q
            · exact Or.inr (Or.inl ⟨q, hSS n q2⟩)
            · exact Or.inr (Or.inr q)
          · exact Or.inr (Or.inl ⟨q, (hS' n).mpr ⟨Nat.le_refl _, j, by omega, q2, ((hN' n).mp q3).2⟩⟩)
        have g2 : bt S' n = true → f0 = 0 := by
          intro q
          obtain ⟨_, i, i1, i2, i3⟩ := (hS' n).mp q
          rcases hf0 with ⟨q1, q2⟩ | ⟨q1, _⟩
          · by_cases q3 : i = j
            · have := (hN' n).mpr ⟨Nat.le_refl _, by rw [← q3]; exact i3⟩
              rw [q2 (by omega)] at this
              cases this
            · rw [q1]; exact f2 ((hS n).mpr ⟨Nat.le_refl _, i, by omega, i2, i3⟩)
          · exact q1
        have g3 : ∀ i m, i < j → i < hi → m ≤ n → dp_ch L w i a m → f0 ≤ lk m + (lo - 1 - i) * s := by
          intro i m h1 h2 h3 h4
          have := f3 i m h1 h2 h3 h4
          rcases hf0 with q | q <;> omega
        by_cases jh : j < hi
        · refine ⟨n + 1 - a + 1, sy_w81 (f0 := f0) hb hn (by omega) (by omega) jh hs hs1 hl f0le (fun f' X hX k1 k2 k3 => ?_) (n + 1 - a) a f0 0 (by omega) (Nat.le_refl _) (fun k => by rw [b_0]; exact ⟨fun q => absurd q Bool.false_ne_true, fun ⟨m, m1, m2, _⟩ => by omega⟩) (Nat.le_refl _) (fun m m1 m2 => by omega) (Or.inl rfl)⟩
          refine nm_e (br_t (nI_le (b := 3) (by omega) (by omega)) (nm_r (nI_1 j) (ih (j + 1) f' S' X _ (by omega) (fun _ m => ?_) hS' ?_ (fun q => by have := g2 q; omega) (fun i m h1 h2 h3 h4 => ?_) (by omega))))
          · rw [hX m]
            constructor
            · rintro ⟨m', m1, m2, m3, m4⟩
              obtain ⟨e1, e2⟩ := (hE m' m2 m).mp m4
              exact ⟨e1, m', ((hN' m').mp m3).2, e2⟩
            · rintro ⟨q, m', q1, q2⟩
              have q3 := q2.1
              exact ⟨m', dp_ch_le j a m' q1, by omega, (hN' m').mpr ⟨by omega, q1⟩, (hE m' (by omega) m).mpr ⟨q, q2⟩⟩
          · rcases k3 with q | ⟨m, m1, m2, m3, m4⟩
            · rw [q]
              rcases g1 with q | q | ⟨i, m, i1, i2⟩
              · exact Or.inl q
              · exact Or.inr (Or.inl q)
              · exact Or.inr (Or.inr ⟨i, m, by omega, i2⟩)
            · exact Or.inr (Or.inr ⟨j, m, by omega, jh, m2, ((hN' m).mp m3).2, m4⟩)
          · by_cases q : i = j
            · rw [q] at h4 ⊢
              exact k2 m (dp_ch_le j a m h4) h3 ((hN' m).mpr ⟨h3, h4⟩)
            · have := g3 i m (by omega) h2 h3 h4
              omega
        · obtain rfl : j = hi := by omega
          refine ⟨1, br_f (nI_nlt ha (by omega)) (br_t (nI_le (Nat.le_refl _) (by omega)) (nm_e (br_t (nI_le (b := 3) (by omega) (by omega)) (nm_r (nI_1 j) (ih (j + 1) f0 S' 0 _ (by omega) (fun q => by omega) hS' ?_ g2 (fun i m h1 h2 h3 h4 => g3 i m (by omega) h2 h3 h4) f0le)))))⟩
          rcases g1 with q | q | ⟨i, m, i1, i2⟩
          · exact Or.inl q
          · exact Or.inr (Or.inl q)
          · exact Or.inr (Or.inr ⟨i, m, by omega, i2⟩)
      refine pk_lt j lo (fun hlt => go S (fun m => ?_)) (fun hge => nm_e (go _ (fun m => ?_)))
      · rw [hS m]
        constructor
        · rintro ⟨q, i, i1, i2⟩; exact ⟨q, i, by omega, i2⟩
        · rintro ⟨q, i, i1, i2, i3⟩; exact ⟨q, i, by omega, i2, i3⟩
      · rw [bb_orI, hS m, hN' m]
        constructor
        · rintro (⟨q, i, i1, i2⟩ | ⟨q, q2⟩)
          · exact ⟨q, i, by omega, i2⟩
          · exact ⟨q, j, by omega, hge, q2⟩
        · rintro ⟨q, i, i1, i2, i3⟩
          by_cases q2 : i = j
          · rw [q2] at i3; exact Or.inr ⟨q, i3⟩
          · exact Or.inl ⟨q, i, by omega, i2, i3⟩
end
