/-! ===== examine ===== -/
section
variable {yplace yroot yrowLength yfirst youts ytop : Int32} {ykind ywith ysize ysort ymany yuse ytypeOf yleast ygreatest ylisted ytypeOfName yused yvalued ygiven yname yparent ychildren ycount yrow yvalue yattributes yends ylack yshortest youtKind youtWith ywork yworkWith yweight yfollow yfirsts ylasts ybare ymet ynameAt ytokenAt ytodo : Nat → Int32}
/-- STAR, PLUS, TIMES -/
theorem sy_lookW {post : SY → Prop} {t b a n k : Nat} {w vl : Nat → Nat} {R : ex_T} (ht : t < 6) (hb : b + 1 < 16) (ha : a ≤ n) (hn : n ≤ 24) (hW : ex_W (.pow R k)) (hw30 : ex_w (.pow R k) ≤ 30) (hk : (k < 16 ∧ ykind (16 * t + b) = nI 8 ∧ ywith (16 * t + b) = nI k) ∨ (k = 16 ∧ ykind (16 * t + b) = nI 4) ∨ (k = 17 ∧ ykind (16 * t + b) = nI 5)) (hP : ed_P w n vl R (b + 1) yshortest yends ylack)
    (h : ∀ (E : Int32) (x : Nat), (∀ m, bt E m = true ↔ m ≤ n ∧ dp_E (ex_L vl (.pow R k)) w a m) → dp_M (ex_w (.pow R k)) (dp_K (ex_L vl (.pow R k)) w n a) x → post (yplace, yroot, yrowLength, nI (16 * t), youts, ytop, ykind, ywith, ysize, ysort, ymany, yuse, ytypeOf, yleast, ygreatest, ylisted, ytypeOfName, yused, yvalued, ygiven, yname, yparent, ychildren, ycount, yrow, yvalue, yattributes, upd yends (32 * b + a) E, upd ylack (32 * b + a) (nI x), yshortest, youtKind, youtWith, ywork, yworkWith, yweight, yfollow, yfirsts, ylasts, ybare, ymet, ynameAt, ytokenAt, ytodo)) : wpY_look post (yplace, yroot, yrowLength, nI (16 * t), youts, ytop, ykind, ywith, ysize, ysort, ymany, yuse, ytypeOf, yleast, ygreatest, ylisted, ytypeOfName, yused, yvalued, ygiven, yname, yparent, ychildren, ycount, yrow, yvalue, yattributes, yends, ylack, yshortest, youtKind, youtWith, ywork, yworkWith, yweight, yfollow, yfirsts, ylasts, ybare, ymet, ynameAt, ytokenAt, ytodo) (nI b) (nI a) (nI n) := by
  obtain ⟨hsh, hR⟩ := hP
  obtain ⟨hs1, hs2⟩ := ex_sh_s vl R hW.1
  have hm1 := ex_m_pos hW.2.2
  have hw : ex_w (.pow R k) = ex_m k * ex_w R := rfl
  have hwR : ex_w R ≤ 30 := by
    have : 1 * ex_w R ≤ ex_m k * ex_w R := Nat.mul_le_mul_right _ hm1
    omega
  rcases hk with ⟨k16, hk, hwi⟩ | ⟨rfl, hk⟩ | ⟨rfl, hk⟩
  · have hv := hW.2.2 k16
    have em : ex_m k = k % 4 := if_pos k16
    rw [em] at hw
    have cg : ∀ u, (∃ j, k / 4 ≤ j ∧ j ≤ k % 4 ∧ ex_pw (ex_L vl R) j u) ↔ ex_L vl (.pow R k) u := by
      intro u
      constructor
      · rintro ⟨j, h1, h2, h3⟩; exact ⟨j, by unfold ex_lo; rw [if_pos k16]; exact h1, fun _ => h2, h3⟩
      · rintro ⟨j, h1, h2, h3⟩
        unfold ex_lo at h1
        rw [if_pos k16] at h1
        exact ⟨j, h1, h2 k16, h3⟩
    refine sy_look0 ht (by omega) hk (fun x4 x5 x6 e4 e5 e6 => ?_)
    subst e4
    refine br_f (by decide) (br_f (by decide) (br_f (by decide) (br_f (by decide) (br_f (by decide) (br_f (by decide) (br_f (by decide) (br_f (by decide) (br_f (by decide) (br_f (by decide) (br_t rfl ?_))))))))))
    rw [e5, hwi, tk_sh (by omega), tk_an (by omega)]
    refine sy_wordsT (L := ex_L vl R) (B := ex_w R) (w := w) hb ha hn (by omega) (by omega) (by omega) hwR hsh hs1 hs2 hR (fun E x hE hM => h E x (fun m => ?_) ?_)
    · rw [hE m, dp_E_congr cg]
    · exact dp_M_cg hM (by omega) (fun d => dp_K_congr cg w n a d)
  · have cg : ∀ u, (∃ j, 0 ≤ j ∧ ex_pw (ex_L vl R) j u) ↔ ex_L vl (.pow R 16) u := by
      intro u
      constructor
      · rintro ⟨j, h1, h3⟩; exact ⟨j, Nat.zero_le _, fun q => absurd q (by omega), h3⟩
      · rintro ⟨j, h1, h2, h3⟩; exact ⟨j, Nat.zero_le _, h3⟩
    refine sy_look0 ht (by omega) hk (fun x4 x5 x6 e4 e5 e6 => ?_)
    subst e4
    refine br_f (by decide) (br_f (by decide) (br_f (by decide) (br_f (by decide) (br_f (by decide) (br_f (by decide) (br_t rfl ?_))))))
    refine sy_wordsR (lo := 0) (L := ex_L vl R) (B := ex_w R) (w := w) hb ha hn (by omega) hwR hsh (by omega) hR (fun E x hE hM => h E x (fun m => ?_) ?_)
    · rw [hE m, dp_E_congr cg]
    · exact dp_M_cg hM (by rw [hw, show ex_m 16 = 1 from rfl]; omega) (fun d => dp_K_congr cg w n a d)
  · have cg : ∀ u, (∃ j, 1 ≤ j ∧ ex_pw (ex_L vl R) j u) ↔ ex_L vl (.pow R 17) u := by
      intro u
      constructor
      · rintro ⟨j, h1, h3⟩; exact ⟨j, h1, fun q => absurd q (by omega), h3⟩
      · rintro ⟨j, h1, h2, h3⟩; exact ⟨j, h1, h3⟩
    refine sy_look0 ht (by omega) hk (fun x4 x5 x6 e4 e5 e6 => ?_)
    subst e4
    refine br_f (by decide) (br_f (by decide) (br_f (by decide) (br_f (by decide) (br_f (by decide) (br_f (by decide) (br_f (by decide) (br_t rfl ?_)))))))
    refine sy_wordsR (lo := 1) (L := ex_L vl R) (B := ex_w R) (w := w) hb ha hn (by omega) hwR hsh (by omega) hR (fun E x hE hM => h E x (fun m => ?_) ?_)
    · rw [hE m, dp_E_congr cg]
    · exact dp_M_cg hM (by rw [hw, show ex_m 17 = 1 from rfl]; omega) (fun d => dp_K_congr cg w n a d)
/-- one after the other -/
theorem sy_seq {x y a n s p q : Nat} {w : Nat → Nat} {A B : List Nat → Prop} (hx : x < 16) (hy : y < 16) (ha : a ≤ n) (hn : n ≤ 24) (hp : p ≤ 30) (hq : q ≤ 30) (hA : ed_R A p w n x yends ylack) (hB : ed_R B q w n y yends ylack) (hsy : yshortest y = nI s) (hs : dp_s B s) (hsq : s ≤ q) :
    (∀ post : Int32 → Prop, (∀ r : Int32, (∀ m, bt r m = true ↔ m ≤ n ∧ dp_E (ex_cat A B) w a m) → post r) → wpY_after post (yplace, yroot, yrowLength, yfirst, youts, ytop, ykind, ywith, ysize, ysort, ymany, yuse, ytypeOf, yleast, ygreatest, ylisted, ytypeOfName, yused, yvalued, ygiven, yname, yparent, ychildren, ycount, yrow, yvalue, yattributes, yends, ylack, yshortest, youtKind, youtWith, ywork, yworkWith, yweight, yfollow, yfirsts, ylasts, ybare, ymet, ynameAt, ytokenAt, ytodo) (nI x) (nI y) (nI a)) ∧ ∀ post : Int32 → Prop, (∀ f, dp_M (p + q) (dp_K (ex_cat A B) w n a) f → f ≤ 100000 → post (nI f)) → wpY_lackOf post (yplace, yroot, yrowLength, yfirst, youts, ytop, ykind, ywith, ysize, ysort, ymany, yuse, ytypeOf, yleast, ygreatest, ylisted, ytypeOfName, yused, yvalued, ygiven, yname, yparent, ychildren, ycount, yrow, yvalue, yattributes, yends, ylack, yshortest, youtKind, youtWith, ywork, yworkWith, yweight, yfollow, yfirsts, ylasts, ybare, ymet, ynameAt, ytokenAt, ytodo) (nI x) (nI y) (nI a) := by
  obtain ⟨bA, xa, hxa, hMa⟩ := hA a ha
  have hxa1 : xa ≤ 100000 := by rcases hMa with ⟨_, r, _⟩ | ⟨r, _⟩ <;> omega
  obtain ⟨lk, hlk⟩ := ed_lk hB (by omega)
  constructor
  · intro post h
    refine sy_after hx hy (by omega) (fun r hr => h r (fun k => ?_))
    rw [hr k, dp_E_cat]
    constructor
    · rintro ⟨m, m1, m2, m3, m4⟩
      obtain ⟨e1, e2⟩ := (bA m).mp m3
      obtain ⟨e3, e4⟩ := ((hB m e1).1 k).mp m4
      exact ⟨e3, m, e2, e4⟩
    · rintro ⟨k1, m, e2, e4⟩
      have := e4.1
      exact ⟨m, e2.1, by omega, (bA m).mpr ⟨by omega, e2⟩, ((hB m (by omega)).1 k).mpr ⟨k1, e4⟩⟩
  · intro post h
    refine sy_lackOf (p := xa) (lk := lk) hx hy (by omega) hxa hxa1 hsy (by omega) (fun m hm hb => ?_) (fun f f1 f2 f3 f4 => h f ?_ f1)
    · have := ((bA m).mp hb).1
      exact ⟨(hlk m this).1, (hlk m this).2.1⟩
    · refine dp_cat_M (y := lk) ha hMa (fun k hk => (hlk k hk).2.2) hs hsq (by omega) ?_ f1 f2 (fun k hk hE => f3 k hE.1 (by omega) ((bA k).mpr ⟨hk, hE⟩))
      rcases f4 with r | r | ⟨m, m1, m2, m3, m4⟩
      · exact Or.inl r
      · exact Or.inr (Or.inl r)
      · obtain ⟨e1, e2⟩ := (bA m).mp m3
        exact Or.inr (Or.inr ⟨m, e1, e2, m4⟩)
/-- SEQ, CHOICE, BOTH -/
theorem sy_two {post : SY → Prop} {t b a n N kk : Nat} {w kd vl : Nat → Nat} {P Q : ex_T} (ht : t < 6) (hN : N ≤ 16) (hK : rl_K ykind ywith (16 * t) N kd vl) (hSP : ex_S kd vl P (b + 1)) (hbN : b + 1 + ex_n P + ex_n Q ≤ N) (ha : a ≤ n) (hn : n ≤ 24) (hWP : ex_W P) (hWQ : ex_W Q) (hwP : ex_w P ≤ 30) (hwQ : ex_w Q ≤ 30) (h1 : ed_P w n vl P (b + 1) yshortest yends ylack) (h2 : ed_P w n vl Q (b + 1 + ex_n P) yshortest yends ylack)
    (g2 : kk = 2 → ∀ (E : Int32) (x : Nat), (∀ m, bt E m = true ↔ m ≤ n ∧ dp_E (ex_L vl (.add P Q)) w a m) → dp_M (ex_w P + ex_w Q) (dp_K (ex_L vl (.add P Q)) w n a) x → post (yplace, yroot, yrowLength, nI (16 * t), youts, ytop, ykind, ywith, ysize, ysort, ymany, yuse, ytypeOf, yleast, ygreatest, ylisted, ytypeOfName, yused, yvalued, ygiven, yname, yparent, ychildren, ycount, yrow, yvalue, yattributes, upd yends (32 * b + a) E, upd ylack (32 * b + a) (nI x), yshortest, youtKind, youtWith, ywork, yworkWith, yweight, yfollow, yfirsts, ylasts, ybare, ymet, ynameAt, ytokenAt, ytodo))
    (g1 : kk = 1 → ∀ (E : Int32) (x : Nat), (∀ m, bt E m = true ↔ m ≤ n ∧ dp_E (ex_L vl (.mul P Q)) w a m) → dp_M (ex_w P + ex_w Q) (dp_K (ex_L vl (.mul P Q)) w n a) x → post (yplace, yroot, yrowLength, nI (16 * t), youts, ytop, ykind, ywith, ysize, ysort, ymany, yuse, ytypeOf, yleast, ygreatest, ylisted, ytypeOfName, yused, yvalued, ygiven, yname, yparent, ychildren, ycount, yrow, yvalue, yattributes, upd yends (32 * b + a) E, upd ylack (32 * b + a) (nI x), yshortest, youtKind, youtWith, ywork, yworkWith, yweight, yfollow, yfirsts, ylasts, ybare, ymet, ynameAt, ytokenAt, ytodo))
    (g7 : kk = 7 → ∀ (E : Int32) (x : Nat), (∀ m, bt E m = true ↔ m ≤ n ∧ dp_E (ex_L vl (.sub P Q)) w a m) → dp_M (ex_w P + ex_w Q) (dp_K (ex_L vl (.sub P Q)) w n a) x → post (yplace, yroot, yrowLength, nI (16 * t), youts, ytop, ykind, ywith, ysize, ysort, ymany, yuse, ytypeOf, yleast, ygreatest, ylisted, ytypeOfName, yused, yvalued, ygiven, yname, yparent, ychildren, ycount, yrow, yvalue, yattributes, upd yends (32 * b + a) E, upd ylack (32 * b + a) (nI x), yshortest, youtKind, youtWith, ywork, yworkWith, yweight, yfollow, yfirsts, ylasts, ybare, ymet, ynameAt, ytokenAt, ytodo))
    (hkk : kk = 1 ∨ kk = 2 ∨ kk = 7) : wpY_two post (yplace, yroot, yrowLength, nI (16 * t), youts, ytop, ykind, ywith, ysize, ysort, ymany, yuse, ytypeOf, yleast, ygreatest, ylisted, ytypeOfName, yused, yvalued, ygiven, yname, yparent, ychildren, ycount, yrow, yvalue, yattributes, yends, ylack, yshortest, youtKind, youtWith, ywork, yworkWith, yweight, yfollow, yfirsts, ylasts, ybare, ymet, ynameAt, ytokenAt, ytodo) (nI b) (nI a) (nI kk) := by
  obtain ⟨s1, r1⟩ := h1
  obtain ⟨s2, r2⟩ := h2
  have pP := ex_n_pos P
  have pQ := ex_n_pos Q
  obtain ⟨hsP, hsPw⟩ := ex_sh_s vl P hWP
  obtain ⟨hsQ, hsQw⟩ := ex_sh_s vl Q hWQ
  obtain ⟨bP, xP, eP, mP⟩ := r1 a ha
  obtain ⟨bQ, xQ, eQ, mQ⟩ := r2 a ha
  have xP1 : xP ≤ 100000 := by rcases mP with ⟨_, r, _⟩ | ⟨r, _⟩ <;> omega
  have xQ1 : xQ ≤ 100000 := by rcases mQ with ⟨_, r, _⟩ | ⟨r, _⟩ <;> omega
  have A1 := sy_seq (yfirst := nI (16 * t)) (yplace := yplace) (yroot := yroot) (yrowLength := yrowLength) (youts := youts) (ytop := ytop) (ykind := ykind) (ywith := ywith) (ysize := ysize) (ysort := ysort) (ymany := ymany) (yuse := yuse) (ytypeOf := ytypeOf) (yleast := yleast) (ygreatest := ygreatest) (ylisted := ylisted) (ytypeOfName := ytypeOfName) (yused := yused) (yvalued := yvalued) (ygiven := ygiven) (yname := yname) (yparent := yparent) (ychildren := ychildren) (ycount := ycount) (yrow := yrow) (yvalue := yvalue) (yattributes := yattributes) (youtKind := youtKind) (youtWith := youtWith) (ywork := ywork) (yworkWith := yworkWith) (yweight := yweight) (yfollow := yfollow) (yfirsts := yfirsts) (ylasts := ylasts) (ybare := ybare) (ymet := ymet) (ynameAt := ynameAt) (ytokenAt := ytokenAt) (ytodo := ytodo) (by omega : b + 1 < 16) (by omega : b + 1 + ex_n P < 16) ha hn hwP hwQ r1 r2 s2 hsQ hsQw
  have A2 := sy_seq (yfirst := nI (16 * t)) (yplace := yplace) (yroot := yroot) (yrowLength := yrowLength) (youts := youts) (ytop := ytop) (ykind := ykind) (ywith := ywith) (ysize := ysize) (ysort := ysort) (ymany := ymany) (yuse := yuse) (ytypeOf := ytypeOf) (yleast := yleast) (ygreatest := ygreatest) (ylisted := ylisted) (ytypeOfName := ytypeOfName) (yused := yused) (yvalued := yvalued) (ygiven := ygiven) (yname := yname) (yparent := yparent) (ychildren := ychildren) (ycount := ycount) (yrow := yrow) (yvalue := yvalue) (yattributes := yattributes) (youtKind := youtKind) (youtWith := youtWith) (ywork := ywork) (yworkWith := yworkWith) (yweight := yweight) (yfollow := yfollow) (yfirsts := yfirsts) (ylasts := ylasts) (ybare := ybare) (ymet := ymet) (ynameAt := ynameAt) (ytokenAt := ytokenAt) (ytodo := ytodo) (by omega : b + 1 + ex_n P < 16) (by omega : b + 1 < 16) ha hn hwQ hwP r2 r1 s1 hsP hsPw
  refine nm_r (nI_1 b) (sy_second ht hN hK hSP (by omega) ?_)
  rw [nb_32m, nb_32m, nb_cl (n := 32 * (b + 1) + a) (by omega), nb_cl (n := 32 * (b + 1 + ex_n P) + a) (by omega), eP, eQ]
  have v1 : vp_in (nI (32 * (b + 1) + a)) 512 := vp_in_nI (by omega) (by omega)
  have v2 : vp_in (nI (32 * (b + 1 + ex_n P) + a)) 512 := vp_in_nI (by omega) (by omega)
  refine ⟨v1, v2, nm_e ⟨v1, v2, sy_less (by omega) (by omega) ?_⟩⟩
  rcases hkk with rfl | rfl | rfl
  · refine br_f (by decide) (A1.1 _ (fun r hr => A1.2 _ (fun f hf _ => br_f (by decide) (sy_keep (by omega) (by omega) (g1 rfl r f hr hf)))))
  · refine br_t rfl (sy_keep (by omega) (by omega) (g2 rfl _ _ (fun m => ?_) ?_))
    · show _ ↔ m ≤ n ∧ dp_E (fun u => ex_L vl P u ∨ ex_L vl Q u) w a m
      rw [bb_orI, bP m, bQ m, dp_or_E]
      constructor
      · rintro (⟨q1, q2⟩ | ⟨q1, q2⟩)
        · exact ⟨q1, Or.inl q2⟩
        · exact ⟨q1, Or.inr q2⟩
      · rintro ⟨q1, q2 | q2⟩
        · exact Or.inl ⟨q1, q2⟩
        · exact Or.inr ⟨q1, q2⟩
    · exact dp_M_or mP mQ (by omega) (by omega) (by omega) (fun d => dp_or_K)
  · refine br_f (by decide) (A1.1 _ (fun r hr => A1.2 _ (fun f hf hf1 => br_t rfl (A2.1 _ (fun r' hr' => nm_e (A2.2 _ (fun f' hf' hf1' => sy_less (by omega) (by omega) (sy_keep (by omega) (by omega) (g7 rfl _ _ (fun m => ?_) ?_)))))))))
    · show _ ↔ m ≤ n ∧ dp_E (fun u => ex_cat (ex_L vl P) (ex_L vl Q) u ∨ ex_cat (ex_L vl Q) (ex_L vl P) u) w a m
      rw [bb_orI, hr m, hr' m, dp_or_E]
      constructor
      · rintro (⟨q1, q2⟩ | ⟨q1, q2⟩)
        · exact ⟨q1, Or.inl q2⟩
        · exact ⟨q1, Or.inr q2⟩
      · rintro ⟨q1, q2 | q2⟩
        · exact Or.inl ⟨q1, q2⟩
        · exact Or.inr ⟨q1, q2⟩
    · exact dp_M_or hf hf' (by omega) (by omega) (by omega) (fun d => dp_or_K)
/-- one token: its row of cells -/
theorem sy_ex35 {post : SY → Prop} {J : Int32 → Int32 → Int32 → Int32 → Int32 → Int32 → Int32 → (Nat → Int32) → (Nat → Int32) → (Nat → Int32) → (Nat → Int32) → (Nat → Int32) → (Nat → Int32) → (Nat → Int32) → (Nat → Int32) → (Nat → Int32) → (Nat → Int32) → (Nat → Int32) → (Nat → Int32) → (Nat → Int32) → (Nat → Int32) → (Nat → Int32) → (Nat → Int32) → (Nat → Int32) → (Nat → Int32) → (Nat → Int32) → (Nat → Int32) → (Nat → Int32) → (Nat → Int32) → (Nat → Int32) → (Nat → Int32) → (Nat → Int32) → (Nat → Int32) → (Nat → Int32) → (Nat → Int32) → (Nat → Int32) → (Nat → Int32) → (Nat → Int32) → (Nat → Int32) → (Nat → Int32) → (Nat → Int32) → (Nat → Int32) → (Nat → Int32) → (Nat → Int32) → Prop} {t b n B : Nat} {w : Nat → Nat} {L : List Nat → Prop} (hb : b < 16) (hn : n ≤ 24)
    (hlook : ∀ a, a ≤ n → ∀ en lk : Nat → Int32, (∀ i, 32 * (b + 1) ≤ i → en i = yends i ∧ lk i = ylack i) → ∀ post' : SY → Prop, (∀ (E : Int32) (x : Nat), (∀ m, bt E m = true ↔ m ≤ n ∧ dp_E L w a m) → dp_M B (dp_K L w n a) x → post' (yplace, yroot, yrowLength, nI (16 * t), youts, ytop, ykind, ywith, ysize, ysort, ymany, yuse, ytypeOf, yleast, ygreatest, ylisted, ytypeOfName, yused, yvalued, ygiven, yname, yparent, ychildren, ycount, yrow, yvalue, yattributes, upd en (32 * b + a) E, upd lk (32 * b + a) (nI x), yshortest, youtKind, youtWith, ywork, yworkWith, yweight, yfollow, yfirsts, ylasts, ybare, ymet, ynameAt, ytokenAt, ytodo)) → wpY_look post' (yplace, yroot, yrowLength, nI (16 * t), youts, ytop, ykind, ywith, ysize, ysort, ymany, yuse, ytypeOf, yleast, ygreatest, ylisted, ytypeOfName, yused, yvalued, ygiven, yname, yparent, ychildren, ycount, yrow, yvalue, yattributes, en, lk, yshortest, youtKind, youtWith, ywork, yworkWith, yweight, yfollow, yfirsts, ylasts, ybare, ymet, ynameAt, ytokenAt, ytodo) (nI b) (nI a) (nI n))
    (h : ∀ en lk : Nat → Int32, ed_R L B w n b en lk → (∀ i, 32 * (b + 1) ≤ i → en i = yends i ∧ lk i = ylack i) → J (nI b + (-1)) yplace yroot yrowLength (nI (16 * t)) youts ytop ykind ywith ysize ysort ymany yuse ytypeOf yleast ygreatest ylisted ytypeOfName yused yvalued ygiven yname yparent ychildren ycount yrow yvalue yattributes en lk yshortest youtKind youtWith ywork yworkWith yweight yfollow yfirsts ylasts ybare ymet ynameAt ytokenAt ytodo) : ∀ (c : Nat) (en lk : Nat → Int32), c ≤ n + 1 → (∀ a, c ≤ a → a ≤ n → (∀ m, bt (en (32 * b + a)) m = true ↔ m ≤ n ∧ dp_E L w a m) ∧ ∃ x, lk (32 * b + a) = nI x ∧ dp_M B (dp_K L w n a) x) → (∀ i, 32 * (b + 1) ≤ i → en i = yends i ∧ lk i = ylack i) → wY_examine_35 post J (nI n) (nI b) (c + 1) (nI c + (-1)) yplace yroot yrowLength (nI (16 * t)) youts ytop ykind ywith ysize ysort ymany yuse ytypeOf yleast ygreatest ylisted ytypeOfName yused yvalued ygiven yname yparent ychildren ycount yrow yvalue yattributes en lk yshortest youtKind youtWith ywork yworkWith yweight yfollow yfirsts ylasts ybare ymet ynameAt ytokenAt ytodo := by
  intro c
  induction c with
  | zero =>
    intro en lk hc hr hf
    exact br_t nb_d0 (nm_e (h en lk (fun a ha => hr a (by omega) ha) hf))
  | succ c ih =>
    intro en lk hc hr hf
    rw [nb_a1]
    refine br_f (nI_pos (by omega)) (hlook c (by omega) en lk hf _ (fun E x hE hM => nm_e (ih _ _ (by omega) (fun a h1 h2 => ?_) (fun i hi => ?_))))
    · by_cases q : a = c
      · rw [q, pk_us, pk_us]; exact ⟨hE, x, rfl, hM⟩
      · rw [pk_un (by omega), pk_un (by omega)]; exact hr a (by omega) h2
    · rw [pk_un (by omega), pk_un (by omega)]; exact hf i hi
theorem sy_exS {post : SY → Prop} {t b n N fu : Nat} {w kd vl : Nat → Nat} {R : ex_T} (hb : b < 16) (hn : n ≤ 24)
    (hshort : ∀ post' : Int32 → Prop, post' (nI (ex_sh R)) → wpY_shorter post' (yplace, yroot, yrowLength, nI (16 * t), youts, ytop, ykind, ywith, ysize, ysort, ymany, yuse, ytypeOf, yleast, ygreatest, ylisted, ytypeOfName, yused, yvalued, ygiven, yname, yparent, ychildren, ycount, yrow, yvalue, yattributes, yends, ylack, yshortest, youtKind, youtWith, ywork, yworkWith, yweight, yfollow, yfirsts, ylasts, ybare, ymet, ynameAt, ytokenAt, ytodo) (nI b))
    (hlook : ∀ a, a ≤ n → ∀ en lk : Nat → Int32, (∀ i, 32 * (b + 1) ≤ i → en i = yends i ∧ lk i = ylack i) → ∀ post' : SY → Prop, (∀ (E : Int32) (x : Nat), (∀ m, bt E m = true ↔ m ≤ n ∧ dp_E (ex_L vl R) w a m) → dp_M (ex_w R) (dp_K (ex_L vl R) w n a) x → post' (yplace, yroot, yrowLength, nI (16 * t), youts, ytop, ykind, ywith, ysize, ysort, ymany, yuse, ytypeOf, yleast, ygreatest, ylisted, ytypeOfName, yused, yvalued, ygiven, yname, yparent, ychildren, ycount, yrow, yvalue, yattributes, upd en (32 * b + a) E, upd lk (32 * b + a) (nI x), upd yshortest b (nI (ex_sh R)), youtKind, youtWith, ywork, yworkWith, yweight, yfollow, yfirsts, ylasts, ybare, ymet, ynameAt, ytokenAt, ytodo)) → wpY_look post' (yplace, yroot, yrowLength, nI (16 * t), youts, ytop, ykind, ywith, ysize, ysort, ymany, yuse, ytypeOf, yleast, ygreatest, ylisted, ytypeOfName, yused, yvalued, ygiven, yname, yparent, ychildren, ycount, yrow, yvalue, yattributes, en, lk, upd yshortest b (nI (ex_sh R)), youtKind, youtWith, ywork, yworkWith, yweight, yfollow, yfirsts, ylasts, ybare, ymet, ynameAt, ytokenAt, ytodo) (nI b) (nI a) (nI n))
    (h : ∀ sh en lk : Nat → Int32, ed_P w n vl R b sh en lk → (∀ j, b + 1 ≤ j → sh j = yshortest j) → (∀ i, 32 * (b + 1) ≤ i → en i = yends i ∧ lk i = ylack i) → wY_examine_17 post (nI n) fu (nI b + (-1)) yplace yroot yrowLength (nI (16 * t)) youts ytop ykind ywith ysize ysort ymany yuse ytypeOf yleast ygreatest ylisted ytypeOfName yused yvalued ygiven yname yparent ychildren ycount yrow yvalue yattributes en lk sh youtKind youtWith ywork yworkWith yweight yfollow yfirsts ylasts ybare ymet ynameAt ytokenAt ytodo) : wY_examine_17 post (nI n) (fu + 1) (nI (b + 1) + (-1)) yplace yroot yrowLength (nI (16 * t)) youts ytop ykind ywith ysize ysort ymany yuse ytypeOf yleast ygreatest ylisted ytypeOfName yused yvalued ygiven yname yparent ychildren ycount yrow yvalue yattributes yends ylack yshortest youtKind youtWith ywork yworkWith yweight yfollow yfirsts ylasts ybare ymet ynameAt ytokenAt ytodo := by
  rw [nb_a1]
  refine br_f (nI_pos (by omega)) (hshort _ ⟨vp_in_nI hb (by omega), nm_r (e' := upd yshortest b (nI (ex_sh R))) (by rw [nb_cl (by omega)]) ⟨n + 1 + 1, ?_⟩⟩)
  have e : nI n = nI (n + 1) + (-1) := (nb_a1 n).symm
  have R1 := sy_ex35 (post := post) (J := wY_examine_17 post (nI n) fu) (yshortest := upd yshortest b (nI (ex_sh R))) (t := t) (B := ex_w R) (L := ex_L vl R) (w := w) hb hn hlook (fun en lk hR hf => h _ en lk ⟨pk_us, hR⟩ (fun j hj => pk_un (by omega)) hf) (n + 1) yends ylack (Nat.le_refl _) (fun a h1 h2 => by omega) (fun i _ => ⟨rfl, rfl⟩)
  rw [nb_a1] at R1
  exact R1
end
