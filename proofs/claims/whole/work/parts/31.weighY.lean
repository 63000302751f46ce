/-! ===== the reference's weights ===== -/
theorem wc_le (w : Nat) : wc_n w ≤ 1000 := by unfold wc_n; split <;> omega
theorem wc_0 (w : Nat) : wc_n w = 0 ↔ w = 0 := by unfold wc_n; split <;> omega
theorem wc_30 (w : Nat) : wc_n w ≤ 30 ↔ w ≤ 30 := by unfold wc_n; split <;> omega
theorem wc_cs (w : Nat) : (w ≤ 1000 ∧ wc_n w = w) ∨ (1000 < w ∧ wc_n w = 1000) := by
  by_cases q : w ≤ 1000
  · exact Or.inl ⟨q, if_pos q⟩
  · exact Or.inr ⟨by omega, if_neg q⟩
theorem wc_add (a b : Nat) : wc_n (wc_n a + wc_n b) = wc_n (a + b) := by
  rcases wc_cs a with h1 | h1 <;> rcases wc_cs b with h2 | h2 <;> rcases wc_cs (wc_n a + wc_n b) with h3 | h3 <;> rcases wc_cs (a + b) with h4 | h4 <;> omega
theorem wc_2 (a b : Nat) : wc_n (2 * (wc_n a + wc_n b)) = wc_n (2 * (a + b)) := by
  rcases wc_cs a with h1 | h1 <;> rcases wc_cs b with h2 | h2 <;> rcases wc_cs (2 * (wc_n a + wc_n b)) with h3 | h3 <;> rcases wc_cs (2 * (a + b)) with h4 | h4 <;> omega
theorem wc_m (m a : Nat) (h : 1 ≤ m) : wc_n (m * wc_n a) = wc_n (m * a) := by
  by_cases q : a ≤ 1000
  · rw [show wc_n a = a from if_pos q]
  · have e : wc_n a = 1000 := if_neg q
    have h1 : 1 * 1000 ≤ m * 1000 := Nat.mul_le_mul_right _ h
    have h2 : m * 1000 ≤ m * a := Nat.mul_le_mul_left _ (by omega)
    rw [e]
    unfold wc_n
    by_cases q2 : m * 1000 ≤ 1000
    · rw [if_pos q2]
      by_cases q3 : m * a ≤ 1000
      · rw [if_pos q3]; omega
      · rw [if_neg q3]; omega
    · rw [if_neg q2, if_neg (by omega)]
section
variable {yplace yroot yrowLength yfirst youts ytop : Int32} {ykind ywith ysize ysort ymany yuse ytypeOf yleast ygreatest ylisted ytypeOfName yused yvalued ygiven yname yparent ychildren ycount yrow yvalue yattributes yends ylack yshortest youtKind youtWith ywork yworkWith yweight yfollow yfirsts ylasts ybare ymet ynameAt ytokenAt ytodo : Nat → Int32}
theorem sy_w141 {post : SY → Prop} {J : Int32 → (Nat → Int32) → (Nat → Int32) → (Nat → Int32) → (Nat → Int32) → (Nat → Int32) → (Nat → Int32) → (Nat → Int32) → (Nat → Int32) → (Nat → Int32) → (Nat → Int32) → (Nat → Int32) → (Nat → Int32) → (Nat → Int32) → (Nat → Int32) → (Nat → Int32) → (Nat → Int32) → (Nat → Int32) → (Nat → Int32) → (Nat → Int32) → (Nat → Int32) → (Nat → Int32) → (Nat → Int32) → (Nat → Int32) → (Nat → Int32) → (Nat → Int32) → (Nat → Int32) → (Nat → Int32) → (Nat → Int32) → (Nat → Int32) → (Nat → Int32) → (Nat → Int32) → (Nat → Int32) → (Nat → Int32) → (Nat → Int32) → (Nat → Int32) → (Nat → Int32) → (Nat → Int32) → Prop} {b z : Nat} {x1 : Int32} (hb : b < 16) (hz : z < 2 ^ 31) (h : J (nI b + (-1)) ykind ywith ysize ysort ymany yuse ytypeOf yleast ygreatest ylisted ytypeOfName yused yvalued ygiven yname yparent ychildren ycount yrow yvalue yattributes yends ylack yshortest youtKind youtWith ywork yworkWith (upd yweight b (nI (wc_n z))) yfollow yfirsts ylasts ybare ymet ynameAt ytokenAt ytodo) : wY_weigh_141 post J x1 (nI b) (nI z) yplace yroot yrowLength yfirst youts ytop ykind ywith ysize ysort ymany yuse ytypeOf yleast ygreatest ylisted ytypeOfName yused yvalued ygiven yname yparent ychildren ycount yrow yvalue yattributes yends ylack yshortest youtKind youtWith ywork yworkWith yweight yfollow yfirsts ylasts ybare ymet ynameAt ytokenAt ytodo := by
  have v : vp_in (nI b) 16 := vp_in_nI hb (by omega)
  have c : (nI b).toNatClampNeg = b := nb_cl (by omega)
  refine pk_le z 1000 (fun q => ⟨v, nm_r (e' := upd yweight b (nI (wc_n z))) (by rw [c, show wc_n z = z from if_pos q]) (nm_e h)⟩) (fun q => ⟨v, nm_r (e' := upd yweight b (nI (wc_n z))) (by rw [c, show wc_n z = 1000 from if_neg (by omega)]; rfl) (nm_e h)⟩)
theorem sy_wgT {post : SY → Prop} {d : Nat} {kd vl : Nat → Nat} (hd : d ≤ 16) (hK : rl_K ykind ywith 96 d kd vl) : ∀ (R : ex_T) (b fu : Nat) (wt : Nat → Int32), ex_S kd vl R b → ex_W R → b + ex_n R ≤ d → (∀ wt' : Nat → Int32, wg_P wt' R b → (∀ j, b + ex_n R ≤ j → wt' j = wt j) → wY_weigh_4 post (nI d) yplace yroot yrowLength yfirst youts ytop fu (nI b + (-1)) ykind ywith ysize ysort ymany yuse ytypeOf yleast ygreatest ylisted ytypeOfName yused yvalued ygiven yname yparent ychildren ycount yrow yvalue yattributes yends ylack yshortest youtKind youtWith ywork yworkWith wt' yfollow yfirsts ylasts ybare ymet ynameAt ytokenAt ytodo) → wY_weigh_4 post (nI d) yplace yroot yrowLength yfirst youts ytop (fu + ex_n R) (nI (b + ex_n R) + (-1)) ykind ywith ysize ysort ymany yuse ytypeOf yleast ygreatest ylisted ytypeOfName yused yvalued ygiven yname yparent ychildren ycount yrow yvalue yattributes yends ylack yshortest youtKind youtWith ywork yworkWith wt yfollow yfirsts ylasts ybare ymet ynameAt ytokenAt ytodo := by
  have e96 : ∀ b, (96 : Int32) + nI b = nI (96 + b) := fun b => nI_add 96 b
  have e97 : ∀ b, (97 : Int32) + nI b = nI (96 + (b + 1)) := fun b => by rw [show 96 + (b + 1) = 97 + b by omega]; exact nI_add 97 b
  have kind : ∀ b kk, b < d → kd b = kk → ykind (96 + b) = nI kk := fun b kk hb q => by rw [(hK b hb).1, q]
  -- leaves and unary tokens
  have head1 : ∀ (b kk fu x : Nat) (wt : Nat → Int32), b < d → kd b = kk → kk < 9 → (ex_pt kk = 0 ∧ x = 0) ∨ (ex_pt kk = 1 ∧ b + 1 < 16 ∧ wt (b + 1) = nI x) → wY_weigh_87 post (wY_weigh_4 post (nI d) yplace yroot yrowLength yfirst youts ytop fu) (nI d) (nI b) (nI kk) (nI x) 0 yplace yroot yrowLength yfirst youts ytop ykind ywith ysize ysort ymany yuse ytypeOf yleast ygreatest ylisted ytypeOfName yused yvalued ygiven yname yparent ychildren ycount yrow yvalue yattributes yends ylack yshortest youtKind youtWith ywork yworkWith wt yfollow yfirsts ylasts ybare ymet ynameAt ytokenAt ytodo → wY_weigh_4 post (nI d) yplace yroot yrowLength yfirst youts ytop (fu + 1) (nI (b + 1) + (-1)) ykind ywith ysize ysort ymany yuse ytypeOf yleast ygreatest ylisted ytypeOfName yused yvalued ygiven yname yparent ychildren ycount yrow yvalue yattributes yends ylack yshortest youtKind youtWith ywork yworkWith wt yfollow yfirsts ylasts ybare ymet ynameAt ytokenAt ytodo := by
    intro b kk fu x wt hb hkk h9 hx h
    rw [nb_a1]
    show (nI b < 0 → _) ∧ _
    rw [e96, nb_cl (n := 96 + b) (by omega), kind b kk hb hkk]
    refine br_f (nI_pos (by omega)) ⟨vp_in_nI (by omega) (by omega), nm_e (sy_parts h9 ?_)⟩
    have t37 : ex_pt kk ≤ 1 → wY_weigh_37 post (wY_weigh_4 post (nI d) yplace yroot yrowLength yfirst youts ytop fu) (nI d) (nI b) (nI kk) (nI x) yplace yroot yrowLength yfirst youts ytop ykind ywith ysize ysort ymany yuse ytypeOf yleast ygreatest ylisted ytypeOfName yused yvalued ygiven yname yparent ychildren ycount yrow yvalue yattributes yends ylack yshortest youtKind youtWith ywork yworkWith wt yfollow yfirsts ylasts ybare ymet ynameAt ytokenAt ytodo := by
      intro hp
      unfold wY_weigh_37
      refine sy_parts h9 (br_t (nI_le (b := 1) hp (by omega)) ?_)
      unfold wY_weigh_66
      exact sy_parts h9 (br_t (nI_le (b := 1) hp (by omega)) h)
    rcases hx with ⟨hp, hx⟩ | ⟨hp, hb1, hx⟩
    · subst hx
      exact br_t (by rw [hp]; decide) (t37 (by omega))
    · refine br_f (by rw [hp]; decide) ?_
      rw [nI_1, nb_cl (n := b + 1) (by omega), hx]
      exact ⟨vp_in_nI hb1 (by omega), t37 (by omega)⟩
  have head2 : ∀ (P : ex_T) (b kk fu x z : Nat) (wt : Nat → Int32), kd b = kk → (kk = 1 ∨ kk = 2 ∨ kk = 7) → ex_S kd vl P (b + 1) → b + 1 + ex_n P < d → wt (b + 1) = nI x → wt (b + 1 + ex_n P) = nI z → wY_weigh_87 post (wY_weigh_4 post (nI d) yplace yroot yrowLength yfirst youts ytop fu) (nI d) (nI b) (nI kk) (nI x) (nI z) yplace yroot yrowLength yfirst youts ytop ykind ywith ysize ysort ymany yuse ytypeOf yleast ygreatest ylisted ytypeOfName yused yvalued ygiven yname yparent ychildren ycount yrow yvalue yattributes yends ylack yshortest youtKind youtWith ywork yworkWith wt yfollow yfirsts ylasts ybare ymet ynameAt ytokenAt ytodo → wY_weigh_4 post (nI d) yplace yroot yrowLength yfirst youts ytop (fu + 1) (nI (b + 1) + (-1)) ykind ywith ysize ysort ymany yuse ytypeOf yleast ygreatest ylisted ytypeOfName yused yvalued ygiven yname yparent ychildren ycount yrow yvalue yattributes yends ylack yshortest youtKind youtWith ywork yworkWith wt yfollow yfirsts ylasts ybare ymet ynameAt ytokenAt ytodo := by
    intro P b kk fu x z wt hkk hk3 hSP hb hx hz h
    have hp : ex_pt kk = 2 := by rcases hk3 with rfl | rfl | rfl <;> rfl
    have h9 : kk < 9 := by omega
    rw [nb_a1]
    show (nI b < 0 → _) ∧ _
    rw [e96, nb_cl (n := 96 + b) (by omega), kind b kk (by omega) hkk]
    refine br_f (nI_pos (by omega)) ⟨vp_in_nI (by omega) (by omega), nm_e (sy_parts h9 (br_f (by rw [hp]; decide) ?_))⟩
    rw [nI_1, nb_cl (n := b + 1) (by omega), hx]
    refine ⟨vp_in_nI (by omega) (by omega), ?_⟩
    unfold wY_weigh_37
    refine sy_parts h9 (br_f (by rw [hp]; decide) ?_)
    rw [e97, e96]
    refine sy_endOf (o := 96) (j := b + 1) (N := d) hK (by omega) (by omega) (by omega) hSP (by omega) ?_
    rw [show (96 : Int32) = nI 96 from rfl, pk_sub (by omega), show 96 + (b + 1 + ex_n P) - 96 = b + 1 + ex_n P by omega]
    unfold wY_weigh_66
    refine sy_parts h9 (br_f (by rw [hp]; decide) ?_)
    rw [nb_cl (n := b + 1 + ex_n P) (by omega), hz]
    exact ⟨vp_in_nI (by omega) (by omega), h⟩
  have two : ∀ (P Q R : ex_T) (kk : Nat), (kk = 1 ∨ kk = 2 ∨ kk = 7) → ex_w R = (if kk = 7 then 2 * (ex_w P + ex_w Q) else ex_w P + ex_w Q) → (∀ (wt : Nat → Int32) b, wt b = nI (wc_n (ex_w R)) → wg_P wt P (b + 1) → wg_P wt Q (b + 1 + ex_n P) → wg_P wt R b) →
      (∀ (b fu : Nat) (wt : Nat → Int32), ex_S kd vl P b → ex_W P → b + ex_n P ≤ d → (∀ wt' : Nat → Int32, wg_P wt' P b → (∀ j, b + ex_n P ≤ j → wt' j = wt j) → wY_weigh_4 post (nI d) yplace yroot yrowLength yfirst youts ytop fu (nI b + (-1)) ykind ywith ysize ysort ymany yuse ytypeOf yleast ygreatest ylisted ytypeOfName yused yvalued ygiven yname yparent ychildren ycount yrow yvalue yattributes yends ylack yshortest youtKind youtWith ywork yworkWith wt' yfollow yfirsts ylasts ybare ymet ynameAt ytokenAt ytodo) → wY_weigh_4 post (nI d) yplace yroot yrowLength yfirst youts ytop (fu + ex_n P) (nI (b + ex_n P) + (-1)) ykind ywith ysize ysort ymany yuse ytypeOf yleast ygreatest ylisted ytypeOfName yused yvalued ygiven yname yparent ychildren ycount yrow yvalue yattributes yends ylack yshortest youtKind youtWith ywork yworkWith wt yfollow yfirsts ylasts ybare ymet ynameAt ytokenAt ytodo) →
      (∀ (b fu : Nat) (wt : Nat → Int32), ex_S kd vl Q b → ex_W Q → b + ex_n Q ≤ d → (∀ wt' : Nat → Int32, wg_P wt' Q b → (∀ j, b + ex_n Q ≤ j → wt' j = wt j) → wY_weigh_4 post (nI d) yplace yroot yrowLength yfirst youts ytop fu (nI b + (-1)) ykind ywith ysize ysort ymany yuse ytypeOf yleast ygreatest ylisted ytypeOfName yused yvalued ygiven yname yparent ychildren ycount yrow yvalue yattributes yends ylack yshortest youtKind youtWith ywork yworkWith wt' yfollow yfirsts ylasts ybare ymet ynameAt ytokenAt ytodo) → wY_weigh_4 post (nI d) yplace yroot yrowLength yfirst youts ytop (fu + ex_n Q) (nI (b + ex_n Q) + (-1)) ykind ywith ysize ysort ymany yuse ytypeOf yleast ygreatest ylisted ytypeOfName yused yvalued ygiven yname yparent ychildren ycount yrow yvalue yattributes yends ylack yshortest youtKind youtWith ywork yworkWith wt yfollow yfirsts ylasts ybare ymet ynameAt ytokenAt ytodo) →
      ∀ (b fu : Nat) (wt : Nat → Int32), kd b = kk → ex_S kd vl P (b + 1) → ex_S kd vl Q (b + 1 + ex_n P) → ex_W P → ex_W Q → b + (1 + ex_n P + ex_n Q) ≤ d → (∀ wt' : Nat → Int32, wg_P wt' R b → (∀ j, b + (1 + ex_n P + ex_n Q) ≤ j → wt' j = wt j) → wY_weigh_4 post (nI d) yplace yroot yrowLength yfirst youts ytop fu (nI b + (-1)) ykind ywith ysize ysort ymany yuse ytypeOf yleast ygreatest ylisted ytypeOfName yused yvalued ygiven yname yparent ychildren ycount yrow yvalue yattributes yends ylack yshortest youtKind youtWith ywork yworkWith wt' yfollow yfirsts ylasts ybare ymet ynameAt ytokenAt ytodo) → wY_weigh_4 post (nI d) yplace yroot yrowLength yfirst youts ytop (fu + (1 + ex_n P + ex_n Q)) (nI (b + (1 + ex_n P + ex_n Q)) + (-1)) ykind ywith ysize ysort ymany yuse ytypeOf yleast ygreatest ylisted ytypeOfName yused yvalued ygiven yname yparent ychildren ycount yrow yvalue yattributes yends ylack yshortest youtKind youtWith ywork yworkWith wt yfollow yfirsts ylasts ybare ymet ynameAt ytokenAt ytodo := by
    intro P Q R kk hk3 hW hR ihP ihQ b fu wt hkb hSP hSQ hWP hWQ hbd h
    have pP := ex_n_pos P
    have pQ := ex_n_pos Q
    have l1 := wc_le (ex_w P)
    have l2 := wc_le (ex_w Q)
    rw [show fu + (1 + ex_n P + ex_n Q) = fu + 1 + ex_n P + ex_n Q by omega, show b + (1 + ex_n P + ex_n Q) = b + 1 + ex_n P + ex_n Q by omega]
    refine ihQ (b + 1 + ex_n P) (fu + 1 + ex_n P) wt hSQ hWQ (by omega) (fun w1 g1 f1 => ?_)
    refine ihP (b + 1) (fu + 1) w1 hSP hWP (by omega) (fun w2 g2 f2 => ?_)
    have g1' : wg_P w2 Q (b + 1 + ex_n P) := wg_cg Q _ f2 g1
    refine head2 P b kk fu (wc_n (ex_w P)) (wc_n (ex_w Q)) w2 hkb hk3 hSP (by omega) (wg_b g2) (wg_b g1') ?_
    have fin : wY_weigh_4 post (nI d) yplace yroot yrowLength yfirst youts ytop fu (nI b + (-1)) ykind ywith ysize ysort ymany yuse ytypeOf yleast ygreatest ylisted ytypeOfName yused yvalued ygiven yname yparent ychildren ycount yrow yvalue yattributes yends ylack yshortest youtKind youtWith ywork yworkWith (upd w2 b (nI (wc_n (ex_w R)))) yfollow yfirsts ylasts ybare ymet ynameAt ytokenAt ytodo := by
      refine h _ (hR _ b pk_us (wg_cg P _ (fun j hj => pk_un (by omega)) g2) (wg_cg Q _ (fun j hj => pk_un (by omega)) g1')) (fun j hj => ?_)
      rw [pk_un (by omega), f2 j (by omega), f1 j (by omega)]
    have k0 : ¬ nI kk = 0 := nI_ne0 (by omega) (by omega)
    refine br_f k0 ?_
    by_cases q : kk = 7
    · refine br_t (by rw [q]; rfl) ?_
      rw [nI_add, show (2 : Int32) = nI 2 from rfl, pk_mul]
      refine sy_w141 (by omega) (by omega) ?_
      rw [wc_2]
      rw [hW, if_pos q] at fin
      exact fin
    · refine br_f (fun e => q ((nI_eq (b := 7) (by omega) (by omega)).mp e)) (br_f (fun e => absurd ((nI_eq (b := 8) (by omega) (by omega)).mp e) (by omega)) ?_)
      rw [nI_add]
      refine sy_w141 (by omega) (by omega) ?_
      rw [wc_add]
      rw [hW, if_neg q] at fin
      exact fin
  intro R
  induction R with
  | natCast k => intro b fu wt hS; exact hS.elim
  | intCast k => intro b fu wt hS; exact hS.elim
  | num k =>
    intro b fu wt hS hW hbd h
    simp only [ex_n] at hbd h ⊢
    refine head1 b 6 fu 0 wt (by omega) hS (by omega) (Or.inl ⟨rfl, rfl⟩) (br_f (by decide) (br_f (by decide) (br_f (by decide) (sy_w141 (z := 0) (by omega) (by omega) (h _ pk_us (fun j hj => pk_un (by omega)))))))
  | var i =>
    intro b fu wt hS hW hbd h
    simp only [ex_n] at hbd h ⊢
    refine head1 b 0 fu 0 wt (by omega) hS.1 (by omega) (Or.inl ⟨rfl, rfl⟩) (br_t rfl (sy_w141 (z := 1) (by omega) (by omega) (h _ pk_us (fun j hj => pk_un (by omega)))))
  | neg P ih =>
    intro b fu wt hS hW hbd h
    simp only [ex_n] at hbd h ⊢
    have pP := ex_n_pos P
    have l1 := wc_le (ex_w P)
    rw [show fu + (1 + ex_n P) = fu + 1 + ex_n P by omega, show b + (1 + ex_n P) = b + 1 + ex_n P by omega]
    refine ih (b + 1) (fu + 1) wt hS.2 hW (by omega) (fun w1 g1 f1 => ?_)
    refine head1 b 3 fu (wc_n (ex_w P)) w1 (by omega) hS.1 (by omega) (Or.inr ⟨rfl, by omega, wg_b g1⟩) (br_f (by decide) (br_f (by decide) (br_f (by decide) ?_)))
    rw [show (0 : Int32) = nI 0 from rfl, nI_add]
    refine sy_w141 (by omega) (by omega) (h _ ⟨?_, wg_cg P _ (fun j hj => pk_un (by omega)) g1⟩ (fun j hj => ?_))
    · rw [pk_us, Nat.add_zero]
      show nI (wc_n (wc_n (ex_w P))) = nI (wc_n (ex_w P))
      have := wc_m 1 (ex_w P) (Nat.le_refl _)
      rw [Nat.one_mul, Nat.one_mul] at this
      rw [this]
    · rw [pk_un (by omega), f1 j (by omega)]
  | pow P k ih =>
    intro b fu wt hS hW hbd h
    simp only [ex_n] at hbd h ⊢
    obtain ⟨s1, s2⟩ := hS
    have pP := ex_n_pos P
    have l1 := wc_le (ex_w P)
    have hm1 := ex_m_pos hW.2.2
    rw [show fu + (1 + ex_n P) = fu + 1 + ex_n P by omega, show b + (1 + ex_n P) = b + 1 + ex_n P by omega]
    refine ih (b + 1) (fu + 1) wt s2 hW.1 (by omega) (fun w1 g1 f1 => ?_)
    have fin : wY_weigh_4 post (nI d) yplace yroot yrowLength yfirst youts ytop fu (nI b + (-1)) ykind ywith ysize ysort ymany yuse ytypeOf yleast ygreatest ylisted ytypeOfName yused yvalued ygiven yname yparent ychildren ycount yrow yvalue yattributes yends ylack yshortest youtKind youtWith ywork yworkWith (upd w1 b (nI (wc_n (ex_m k * wc_n (ex_w P))))) yfollow yfirsts ylasts ybare ymet ynameAt ytokenAt ytodo := by
      refine h _ ⟨?_, wg_cg P _ (fun j hj => pk_un (by omega)) g1⟩ (fun j hj => ?_)
      · rw [pk_us, wc_m _ _ hm1]; rfl
      · rw [pk_un (by omega), f1 j (by omega)]
    rcases s1 with ⟨r1, r2, r3⟩ | ⟨r1, r2⟩ | ⟨r1, r2⟩
    · obtain ⟨_, _, _, _, q5⟩ := hK b (by omega)
      have wv := q5 (Or.inr r2)
      refine head1 b 8 fu (wc_n (ex_w P)) w1 (by omega) r2 (by omega) (Or.inr ⟨rfl, by omega, wg_b g1⟩) (br_f (by decide) (br_f (by decide) (br_t rfl ?_)))
      rw [e96, nb_cl (n := 96 + b) (by omega), wv, r3, tk_an (by omega), pk_mul]
      have hmk : ex_m k = k % 4 := if_pos r1
      rw [hmk] at fin
      have hle : k % 4 * wc_n (ex_w P) ≤ 3 * 1000 := Nat.mul_le_mul (by omega) l1
      exact ⟨vp_in_nI (by omega) (by omega), sy_w141 (by omega) (by omega) fin⟩
    · subst r1
      refine head1 b 4 fu (wc_n (ex_w P)) w1 (by omega) r2 (by omega) (Or.inr ⟨rfl, by omega, wg_b g1⟩) (br_f (by decide) (br_f (by decide) (br_f (by decide) ?_)))
      rw [show (0 : Int32) = nI 0 from rfl, nI_add]
      rw [show ex_m 16 = 1 from rfl, Nat.one_mul] at fin
      exact sy_w141 (by omega) (by omega) fin
    · subst r1
      refine head1 b 5 fu (wc_n (ex_w P)) w1 (by omega) r2 (by omega) (Or.inr ⟨rfl, by omega, wg_b g1⟩) (br_f (by decide) (br_f (by decide) (br_f (by decide) ?_)))
      rw [show (0 : Int32) = nI 0 from rfl, nI_add]
      rw [show ex_m 17 = 1 from rfl, Nat.one_mul] at fin
      exact sy_w141 (by omega) (by omega) fin
  | add P Q ihP ihQ =>
    intro b fu wt hS hW hbd h
    simp only [ex_n] at hbd h ⊢
    exact two P Q (.add P Q) 2 (by omega) rfl (fun wt b h1 h2 h3 => ⟨h1, h2, h3⟩) ihP ihQ b fu wt hS.1 hS.2.1 hS.2.2 hW.1 hW.2 hbd h
  | mul P Q ihP ihQ =>
    intro b fu wt hS hW hbd h
    simp only [ex_n] at hbd h ⊢
    exact two P Q (.mul P Q) 1 (by omega) rfl (fun wt b h1 h2 h3 => ⟨h1, h2, h3⟩) ihP ihQ b fu wt hS.1 hS.2.1 hS.2.2 hW.1 hW.2 hbd h
  | sub P Q ihP ihQ =>
    intro b fu wt hS hW hbd h
    simp only [ex_n] at hbd h ⊢
    exact two P Q (.sub P Q) 7 (by omega) rfl (fun wt b h1 h2 h3 => ⟨h1, h2, h3⟩) ihP ihQ b fu wt hS.1 hS.2.1 hS.2.2 hW.1 hW.2 hbd h
theorem sy_weigh {post : SY → Prop} {kd vl : Nat → Nat} {R : ex_T} (hd : ex_n R ≤ 16) (hK : rl_K ykind ywith 96 (ex_n R) kd vl) (hS : ex_S kd vl R 0) (hW : ex_W R) (h : ∀ wt : Nat → Int32, wg_P wt R 0 → post (yplace, yroot, yrowLength, yfirst, youts, ytop, ykind, ywith, ysize, ysort, ymany, yuse, ytypeOf, yleast, ygreatest, ylisted, ytypeOfName, yused, yvalued, ygiven, yname, yparent, ychildren, ycount, yrow, yvalue, yattributes, yends, ylack, yshortest, youtKind, youtWith, ywork, yworkWith, wt, yfollow, yfirsts, ylasts, ybare, ymet, ynameAt, ytokenAt, ytodo)) : wpY_weigh post (yplace, yroot, yrowLength, yfirst, youts, ytop, ykind, ywith, ysize, ysort, ymany, yuse, ytypeOf, yleast, ygreatest, ylisted, ytypeOfName, yused, yvalued, ygiven, yname, yparent, ychildren, ycount, yrow, yvalue, yattributes, yends, ylack, yshortest, youtKind, youtWith, ywork, yworkWith, yweight, yfollow, yfirsts, ylasts, ybare, ymet, ynameAt, ytokenAt, ytodo) (nI (ex_n R)) := by
  refine nm_r (e' := nI (0 + ex_n R) + (-1)) (by rw [nb_dec, Nat.zero_add]) ⟨1 + ex_n R, ?_⟩
  exact sy_wgT (d := ex_n R) (kd := kd) (vl := vl) hd hK R 0 1 yweight hS hW (by omega) (fun wt hg _ => br_t nb_d0 (h wt hg))
end
