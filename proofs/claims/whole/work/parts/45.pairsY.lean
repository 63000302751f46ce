/-! ===== the reference's pairs ===== -/
theorem nb_vs {n : Nat} (h : n < 900) : vp_nar .short ((nI n).toInt16.toInt32) = nI n := by
  rw [pk_vs]
  exact (by decide +kernel : ∀ n, n < 900 → (nI n).toInt16.toInt32 = nI n) n h
def me_I (P : Nat → Nat → Prop) (W n : Nat) (mt td : Nat → Int32) : Prop := n ≤ cb_n (fun j => decide (mt j ≠ 0)) 900 ∧ (∀ k, k < n → ∃ p q, p < W ∧ q < W ∧ td k = nI (30 * p + q) ∧ P p q) ∧ (∀ p q, p < 30 → q < 30 → mt (30 * p + q) ≠ 0 → ∃ k, k < n ∧ td k = nI (30 * p + q))
def me_M (n0 : Nat) (mt0 td0 : Nat → Int32) (n : Nat) (mt td : Nat → Int32) : Prop := n0 ≤ n ∧ (∀ j, mt0 j ≠ 0 → mt j ≠ 0) ∧ (∀ k, k < n0 → td k = td0 k)
theorem me_add {P : Nat → Nat → Prop} {W n p q : Nat} {mt td : Nat → Int32} (h : me_I P W n mt td) (hW : W ≤ 30) (hp : p < W) (hq : q < W) (hP : P p q) (hm : mt (30 * p + q) = 0) : n < 900 ∧ me_I P W (n + 1) (upd mt (30 * p + q) 1) (upd td n (nI (30 * p + q))) := by
  obtain ⟨h1, h2, h3⟩ := h
  have lt : cb_n (fun j => decide (mt j ≠ 0)) 900 < cb_n (fun j => decide (upd mt (30 * p + q) 1 j ≠ 0)) 900 := by
    refine cb_lt (k := 30 * p + q) ?_ ?_ 900 (by omega) (fun i _ hi => ?_)
    · show decide (mt (30 * p + q) ≠ 0) = false
      rw [hm]; rfl
    · show decide (upd mt (30 * p + q) 1 (30 * p + q) ≠ 0) = true
      rw [pk_us]; rfl
    · have hi' : mt i ≠ 0 := of_decide_eq_true hi
      refine decide_eq_true ?_
      by_cases e : i = 30 * p + q
      · rw [e, pk_us]; exact nb_10
      · rw [pk_un e]; exact hi'
  have le := cb_le (fun j => decide (upd mt (30 * p + q) 1 j ≠ 0)) 900
  refine ⟨by omega, by omega, fun k hk => ?_, fun a b ha hb hab => ?_⟩
  · by_cases e : k = n
    · rw [e, pk_us]; exact ⟨p, q, hp, hq, rfl, hP⟩
    · rw [pk_un e]; exact h2 k (by omega)
  · by_cases e : 30 * a + b = 30 * p + q
    · rw [e]; exact ⟨n, by omega, pk_us⟩
    · rw [pk_un e] at hab
      obtain ⟨k, k1, k2⟩ := h3 a b ha hb hab
      exact ⟨k, by omega, by rw [pk_un (by omega)]; exact k2⟩
theorem gl_P_symm {φ : Nat → Nat → Prop} {F : Nat → Prop} {nm : Nat → Nat} : ∀ k p q, gl_P φ F nm k p q → gl_P φ F nm k q p := by
  intro k
  induction k with
  | zero => rintro p q ⟨a, b, c⟩; exact ⟨b, a, c.symm⟩
  | succ k ih => rintro p q ⟨c, p', q', h, a, b⟩; exact ⟨c.symm, q', p', ih p' q' h, b, a⟩
theorem ld_cg {D E : Nat → Prop} {x : Int32} (hDE : ∀ t, D t ↔ E t) (h : ld_S D x) : ld_S E x := by
  rcases h with ⟨e, r⟩ | ⟨t, t16, e, r1, r2⟩
  · exact Or.inl ⟨e, fun t r' => r t ((hDE t).mpr r')⟩
  · exact Or.inr ⟨t, t16, e, (hDE t).mp r1, fun t' r' => r2 t' ((hDE t').mpr r')⟩
def yp_n (ta : Nat → Int32) (vl : Nat → Nat) (p : Nat) : Nat := vl ((ta p).toNatClampNeg)
def yp_P (fi fo ta : Nat → Int32) (vl : Nat → Nat) (p q : Nat) : Prop := ∃ k, gl_P (fun p q => bt (fo p) q = true) (fun q => bt (fi 0) q = true) (yp_n ta vl) k p q
def yp_G (d W : Nat) (kd vl : Nat → Nat) (fi fo ta nm : Nat → Int32) : Prop := W ≤ 30 ∧ d ≤ 16 ∧ (∀ i, i < d → kd i = 0 → vl i < 6) ∧ (∀ q, bt (fi 0) q = true → q < W) ∧ (∀ p q, p < W → bt (fo p) q = true → q < W) ∧ (∀ p, p < W → ∃ i, i < d ∧ kd i = 0 ∧ ta p = nI i ∧ nm p = nI (vl i))
def yp_c (W : Nat) (ta : Nat → Int32) (vl : Nat → Nat) (A B : Int32) (mt : Nat → Int32) : Prop := ∀ p q, bt A p = true → bt B q = true → yp_n ta vl p = yp_n ta vl q → mt (30 * p + q) ≠ 0
section
variable {yplace yroot yrowLength yfirst youts ytop : Int32} {ykind ywith ysize ysort ymany yuse ytypeOf yleast ygreatest ylisted ytypeOfName yused yvalued ygiven yname yparent ychildren ycount yrow yvalue yattributes yends ylack yshortest youtKind youtWith ywork yworkWith yweight yfollow yfirsts ylasts ybare ymet ynameAt ytokenAt ytodo : Nat → Int32}
theorem sy_mt16 {post : Int32 → SY → Prop} {d W p n0 fu : Nat} {kd vl : Nat → Nat} {A B : Int32} {mt0 td0 : Nat → Int32} (hG : yp_G d W kd vl yfirsts yfollow ytokenAt ynameAt) (hp : p < 30) (hA : ∀ i, bt A i = true → i < W) (hB : ∀ i, bt B i = true → i < W) (hs : ∀ p q, bt A p = true → bt B q = true → yp_n ytokenAt vl p = yp_n ytokenAt vl q → yp_P yfirsts yfollow ytokenAt vl p q)
    (h : ∀ (n : Nat) (mt td : Nat → Int32), me_I (yp_P yfirsts yfollow ytokenAt vl) W n mt td → me_M n0 mt0 td0 n mt td → (∀ q, bt A p = true → bt B q = true → yp_n ytokenAt vl p = yp_n ytokenAt vl q → mt (30 * p + q) ≠ 0) → wY_meet_6 post A B yplace yroot yrowLength yfirst youts ytop fu (nI n) (nI (p + 1)) ykind ywith ysize ysort ymany yuse ytypeOf yleast ygreatest ylisted ytypeOfName yused yvalued ygiven yname yparent ychildren ycount yrow yvalue yattributes yends ylack yshortest youtKind youtWith ywork yworkWith yweight yfollow yfirsts ylasts ybare mt ynameAt ytokenAt td) :
    ∀ (m q n : Nat) (mt td : Nat → Int32), q + m = 30 → me_I (yp_P yfirsts yfollow ytokenAt vl) W n mt td → me_M n0 mt0 td0 n mt td → (∀ q', q' < q → bt A p = true → bt B q' = true → yp_n ytokenAt vl p = yp_n ytokenAt vl q' → mt (30 * p + q') ≠ 0) → wY_meet_16 post (wY_meet_6 post A B yplace yroot yrowLength yfirst youts ytop fu) A B (nI p) yplace yroot yrowLength yfirst youts ytop (m + 1) (nI n) (nI q) ykind ywith ysize ysort ymany yuse ytypeOf yleast ygreatest ylisted ytypeOfName yused yvalued ygiven yname yparent ychildren ycount yrow yvalue yattributes yends ylack yshortest youtKind youtWith ywork yworkWith yweight yfollow yfirsts ylasts ybare mt ynameAt ytokenAt td := by
  obtain ⟨hW, hd, hv, gF, gφ, gt⟩ := hG
  intro m
  induction m with
  | zero =>
    intro q n mt td hq hI hM hc
    obtain rfl : q = 30 := by omega
    refine br_t (by decide) (nm_r (nI_1 p) (h n mt td hI hM (fun q' b1 b2 b3 => hc q' (by have := hB q' b2; omega) b1 b2 b3)))
  | succ m ih =>
    intro q n mt td hq hI hM hc
    refine br_f (nI_ge (b := 30) (by omega) (by omega)) ?_
    cases hb : bt A p with
    | false => exact br_t ((bb_t A (by omega)).mpr hb) (nm_r (nI_1 p) (h n mt td hI hM (fun q' b1 => by rw [hb] at b1; cases b1)))
    | true =>
      refine br_f ((bb_t' A (by omega)).mpr hb) ?_
      have next : (bt B q = true → yp_n ytokenAt vl p = yp_n ytokenAt vl q → mt (30 * p + q) ≠ 0) → wY_meet_16 post (wY_meet_6 post A B yplace yroot yrowLength yfirst youts ytop fu) A B (nI p) yplace yroot yrowLength yfirst youts ytop (m + 1) (nI n) (nI (q + 1)) ykind ywith ysize ysort ymany yuse ytypeOf yleast ygreatest ylisted ytypeOfName yused yvalued ygiven yname yparent ychildren ycount yrow yvalue yattributes yends ylack yshortest youtKind youtWith ywork yworkWith yweight yfollow yfirsts ylasts ybare mt ynameAt ytokenAt td := by
        intro hn
        refine ih (q + 1) n mt td (by omega) hI hM (fun q' l b1 b2 b3 => ?_)
        by_cases e : q' = q
        · rw [e] at b2 b3 ⊢; exact hn b2 b3
        · exact hc q' (by omega) b1 b2 b3
      cases hb2 : bt B q with
      | false => exact br_t ((bb_t B (by omega)).mpr hb2) (nm_r (nI_1 q) (next (fun b => by rw [hb2] at b; cases b)))
      | true =>
        refine br_f ((bb_t' B (by omega)).mpr hb2) ⟨vp_in_nI hp (by omega), vp_in_nI (by omega) (by omega), ?_⟩
        have lp := hA p hb
        have lq := hB q hb2
        obtain ⟨i, i1, i2, i3, i4⟩ := gt p lp
        obtain ⟨j, j1, j2, j3, j4⟩ := gt q lq
        have vi := hv i i1 i2
        have vj := hv j j1 j2
        have ni : yp_n ytokenAt vl p = vl i := by unfold yp_n; rw [i3, nb_cl (by omega)]
        have nj : yp_n ytokenAt vl q = vl j := by unfold yp_n; rw [j3, nb_cl (by omega)]
        have e30 : (30 : Int32) * nI p + nI q = nI (30 * p + q) := by rw [show (30 : Int32) = nI 30 from rfl, pk_mul, nI_add]
        rw [e30, nb_cl (n := p) (by omega), nb_cl (n := q) (by omega), nb_cl (n := 30 * p + q) (by omega), i4, j4, nI_1 q]
        have v900 : vp_in (nI (30 * p + q)) 900 := vp_in_nI (by omega) (by omega)
        refine pk_eq (vl i) (vl j) (fun e => ⟨v900, ?_⟩) (fun e => nm_e (next (fun _ b => by rw [ni, nj] at b; exact absurd b e)))
        have eN : yp_n ytokenAt vl p = yp_n ytokenAt vl q := by rw [ni, nj, e]
        by_cases z : mt (30 * p + q) = 0
        · obtain ⟨n9, I'⟩ := me_add hI hW lp lq (hs p q hb hb2 eN) z
          refine br_t z ⟨v900, nm_r (e' := upd mt (30 * p + q) 1) (by rw [nb_b1]) (nm_r (nI_1 n) ⟨vp_in_nI n9 (by omega), nm_r (e' := upd td n (nI (30 * p + q))) (by rw [nb_cl (n := n) (by omega), nb_vs (by omega)]) (nm_e ?_)⟩)⟩
          refine ih (q + 1) (n + 1) _ _ (by omega) I' ⟨by have := hM.1; omega, fun x hx => ?_, fun k hk => ?_⟩ (fun q' l b1 b2 b3 => ?_)
          · by_cases e : x = 30 * p + q
            · rw [e, pk_us]; exact nb_10
            · rw [pk_un e]; exact hM.2.1 x hx
          · rw [pk_un (by have := hM.1; omega)]; exact hM.2.2 k hk
          · by_cases e : q' = q
            · rw [e, pk_us]; exact nb_10
            · rw [pk_un (by omega)]; exact hc q' (by omega) b1 b2 b3
        · exact br_f z (nm_e (next (fun _ _ => z)))
theorem sy_mt6 {post : Int32 → SY → Prop} {d W n0 : Nat} {kd vl : Nat → Nat} {A B : Int32} {mt0 td0 : Nat → Int32} (hG : yp_G d W kd vl yfirsts yfollow ytokenAt ynameAt) (hA : ∀ i, bt A i = true → i < W) (hB : ∀ i, bt B i = true → i < W) (hs : ∀ p q, bt A p = true → bt B q = true → yp_n ytokenAt vl p = yp_n ytokenAt vl q → yp_P yfirsts yfollow ytokenAt vl p q)
    (h : ∀ (n : Nat) (mt td : Nat → Int32), me_I (yp_P yfirsts yfollow ytokenAt vl) W n mt td → me_M n0 mt0 td0 n mt td → yp_c W ytokenAt vl A B mt → post (nI n) (yplace, yroot, yrowLength, yfirst, youts, ytop, ykind, ywith, ysize, ysort, ymany, yuse, ytypeOf, yleast, ygreatest, ylisted, ytypeOfName, yused, yvalued, ygiven, yname, yparent, ychildren, ycount, yrow, yvalue, yattributes, yends, ylack, yshortest, youtKind, youtWith, ywork, yworkWith, yweight, yfollow, yfirsts, ylasts, ybare, mt, ynameAt, ytokenAt, td)) :
    ∀ (m p n : Nat) (mt td : Nat → Int32), p + m = 30 → me_I (yp_P yfirsts yfollow ytokenAt vl) W n mt td → me_M n0 mt0 td0 n mt td → (∀ p' q, p' < p → bt A p' = true → bt B q = true → yp_n ytokenAt vl p' = yp_n ytokenAt vl q → mt (30 * p' + q) ≠ 0) → wY_meet_6 post A B yplace yroot yrowLength yfirst youts ytop (m + 1) (nI n) (nI p) ykind ywith ysize ysort ymany yuse ytypeOf yleast ygreatest ylisted ytypeOfName yused yvalued ygiven yname yparent ychildren ycount yrow yvalue yattributes yends ylack yshortest youtKind youtWith ywork yworkWith yweight yfollow yfirsts ylasts ybare mt ynameAt ytokenAt td := by
  have hW := hG.1
  intro m
  induction m with
  | zero =>
    intro p n mt td hp hI hM hc
    obtain rfl : p = 30 := by omega
    exact br_t (by decide) (h n mt td hI hM (fun p' q b1 b2 b3 => hc p' q (by have := hA p' b1; omega) b1 b2 b3))
  | succ m ih =>
    intro p n mt td hp hI hM hc
    refine br_f (nI_ge (b := 30) (by omega) (by omega)) ⟨31, ?_⟩
    refine sy_mt16 (n0 := n) (mt0 := mt) (td0 := td) (d := d) (kd := kd) hG (by omega) hA hB hs (fun n' mt' td' I' M' c' => ?_) 30 0 n mt td (by omega) hI ⟨Nat.le_refl _, fun _ r => r, fun _ _ => rfl⟩ (fun q' l => by omega)
    refine ih (p + 1) n' mt' td' (by omega) I' ⟨Nat.le_trans hM.1 M'.1, fun j hj => M'.2.1 j (hM.2.1 j hj), fun k hk => ?_⟩ (fun p' q l b1 b2 b3 => ?_)
    · rw [M'.2.2 k (by have := hM.1; omega)]; exact hM.2.2 k hk
    · by_cases e : p' = p
      · rw [e] at b1 b3 ⊢; exact c' q b1 b2 b3
      · exact M'.2.1 _ (hc p' q (by omega) b1 b2 b3)
theorem sy_meet {post : Int32 → SY → Prop} {d W n : Nat} {kd vl : Nat → Nat} {A B : Int32} (hG : yp_G d W kd vl yfirsts yfollow ytokenAt ynameAt) (hA : ∀ i, bt A i = true → i < W) (hB : ∀ i, bt B i = true → i < W) (hs : ∀ p q, bt A p = true → bt B q = true → yp_n ytokenAt vl p = yp_n ytokenAt vl q → yp_P yfirsts yfollow ytokenAt vl p q) (hI : me_I (yp_P yfirsts yfollow ytokenAt vl) W n ymet ytodo)
    (h : ∀ (n' : Nat) (mt td : Nat → Int32), me_I (yp_P yfirsts yfollow ytokenAt vl) W n' mt td → me_M n ymet ytodo n' mt td → yp_c W ytokenAt vl A B mt → post (nI n') (yplace, yroot, yrowLength, yfirst, youts, ytop, ykind, ywith, ysize, ysort, ymany, yuse, ytypeOf, yleast, ygreatest, ylisted, ytypeOfName, yused, yvalued, ygiven, yname, yparent, ychildren, ycount, yrow, yvalue, yattributes, yends, ylack, yshortest, youtKind, youtWith, ywork, yworkWith, yweight, yfollow, yfirsts, ylasts, ybare, mt, ynameAt, ytokenAt, td)) : wpY_meet post (yplace, yroot, yrowLength, yfirst, youts, ytop, ykind, ywith, ysize, ysort, ymany, yuse, ytypeOf, yleast, ygreatest, ylisted, ytypeOfName, yused, yvalued, ygiven, yname, yparent, ychildren, ycount, yrow, yvalue, yattributes, yends, ylack, yshortest, youtKind, youtWith, ywork, yworkWith, yweight, yfollow, yfirsts, ylasts, ybare, ymet, ynameAt, ytokenAt, ytodo) A B (nI n) :=
  ⟨31, sy_mt6 hG hA hB hs h 30 0 n ymet ytodo (by omega) hI ⟨Nat.le_refl _, fun _ r => r, fun _ _ => rfl⟩ (fun p' q l => by omega)⟩
/-- the tokens in doubt among the first k pairs -/
def yp_D (W k : Nat) (ta td : Nat → Int32) (t : Nat) : Prop := ∃ k' p q, k' < k ∧ p < W ∧ q < W ∧ td k' = nI (30 * p + q) ∧ (ta p).toNatClampNeg ≠ (ta q).toNatClampNeg ∧ (t = (ta p).toNatClampNeg ∨ t = (ta q).toNatClampNeg)
theorem sy_pr50 {post : Int32 → SY → Prop} {d W : Nat} {kd vl : Nat → Nat} (hG : yp_G d W kd vl yfirsts yfollow ytokenAt ynameAt)
    (h : ∀ (n : Nat) (x : Int32) (mt td : Nat → Int32), me_I (yp_P yfirsts yfollow ytokenAt vl) W n mt td → yp_c W ytokenAt vl (yfirsts 0) (yfirsts 0) mt → (∀ p q, p < W → q < W → (∃ k, k < n ∧ td k = nI (30 * p + q)) → yp_c W ytokenAt vl (yfollow p) (yfollow q) mt) → ld_S (yp_D W n ytokenAt td) x → post x (yplace, yroot, yrowLength, yfirst, youts, ytop, ykind, ywith, ysize, ysort, ymany, yuse, ytypeOf, yleast, ygreatest, ylisted, ytypeOfName, yused, yvalued, ygiven, yname, yparent, ychildren, ycount, yrow, yvalue, yattributes, yends, ylack, yshortest, youtKind, youtWith, ywork, yworkWith, yweight, yfollow, yfirsts, ylasts, ybare, mt, ynameAt, ytokenAt, td)) :
    ∀ (m k n : Nat) (x : Int32) (mt td : Nat → Int32), k + m = 900 → k ≤ n → me_I (yp_P yfirsts yfollow ytokenAt vl) W n mt td → yp_c W ytokenAt vl (yfirsts 0) (yfirsts 0) mt → (∀ p q, p < W → q < W → (∃ k', k' < k ∧ td k' = nI (30 * p + q)) → yp_c W ytokenAt vl (yfollow p) (yfollow q) mt) → ld_S (yp_D W k ytokenAt td) x → wY_pairs_50 post (m + 1) x (nI n) (nI k) yplace yroot yrowLength yfirst youts ytop ykind ywith ysize ysort ymany yuse ytypeOf yleast ygreatest ylisted ytypeOfName yused yvalued ygiven yname yparent ychildren ycount yrow yvalue yattributes yends ylack yshortest youtKind youtWith ywork yworkWith yweight yfollow yfirsts ylasts ybare mt ynameAt ytokenAt td := by
  have hG' := hG
  obtain ⟨hW, hd, hv, gF, gφ, gt⟩ := hG'
  intro m
  induction m with
  | zero =>
    intro k n x mt td hk hkn hI h0 hc hx
    have := Nat.le_trans hI.1 (cb_le _ 900)
    obtain rfl : n = k := by omega
    exact br_t (nI_le (Nat.le_refl _) (by omega)) (h n x mt td hI h0 hc hx)
  | succ m ih =>
    intro k n x mt td hk hkn hI h0 hc hx
    have n9 := Nat.le_trans hI.1 (cb_le _ 900)
    refine pk_le n k (fun e => ?_) (fun e => ?_)
    · obtain rfl : n = k := by omega
      exact h n x mt td hI h0 hc hx
    · obtain ⟨p, q, lp, lq, et, hP⟩ := hI.2.1 k e
      obtain ⟨i, i1, i2, i3, i4⟩ := gt p lp
      obtain ⟨j, j1, j2, j3, j4⟩ := gt q lq
      have ci : (ytokenAt p).toNatClampNeg = i := by rw [i3, nb_cl (by omega)]
      have cj : (ytokenAt q).toNatClampNeg = j := by rw [j3, nb_cl (by omega)]
      have vk : vp_in (nI k) 900 := vp_in_nI (by omega) (by omega)
      have vp : vp_in (nI p) 30 := vp_in_nI (by omega) (by omega)
      have vq : vp_in (nI q) 30 := vp_in_nI (by omega) (by omega)
      have d1 : nI (30 * p + q) / 30 = nI p := by
        rw [show (30 : Int32) = nI 30 from rfl, pk_div (by omega) (by omega) (by omega), show (30 * p + q) / 30 = p by omega]
      have d2 : nI (30 * p + q) - nI (30 * p + q) / 30 * 30 = nI q := by
        rw [show (30 : Int32) = nI 30 from rfl, pk_rem (by omega) (by omega) (by omega), show (30 * p + q) % 30 = q by omega]
      rw [nb_cl (n := k) (by omega), et]
      refine ⟨vk, by decide, nm_r d1 ⟨vk, by decide, nm_r d2 ⟨vp, vq, ?_⟩⟩⟩
      rw [nb_cl (n := p) (by omega), nb_cl (n := q) (by omega), i3, j3]
      have inj : ∀ a b, a < W → b < W → nI (30 * p + q) = nI (30 * a + b) → a = p ∧ b = q := by
        intro a b ha hb eq
        have := (nI_eq (by omega) (by omega)).mp eq
        omega
      have dd : ∀ t, yp_D W (k + 1) ytokenAt td t ↔ yp_D W k ytokenAt td t ∨ (i ≠ j ∧ (t = i ∨ t = j)) := by
        intro t
        constructor
        · rintro ⟨k', a, b, l, la, lb, eq, ne, ht⟩
          by_cases ek : k' = k
          · rw [ek, et] at eq
            obtain ⟨ea, eb⟩ := inj a b la lb eq
            rw [ea, eb, ci, cj] at ne ht
            exact Or.inr ⟨ne, ht⟩
          · exact Or.inl ⟨k', a, b, by omega, la, lb, eq, ne, ht⟩
        · rintro (⟨k', a, b, l, r⟩ | ⟨ne, ht⟩)
          · exact ⟨k', a, b, by omega, r⟩
          · exact ⟨k, p, q, by omega, lp, lq, et, by rw [ci, cj]; exact ne, by rw [ci, cj]; exact ht⟩
      have fin : ∀ x' : Int32, ld_S (yp_D W (k + 1) ytokenAt td) x' → wY_pairs_146 post (wY_pairs_50 post (m + 1)) x' (nI n) (nI k) (nI p) (nI q) yplace yroot yrowLength yfirst youts ytop ykind ywith ysize ysort ymany yuse ytypeOf yleast ygreatest ylisted ytypeOfName yused yvalued ygiven yname yparent ychildren ycount yrow yvalue yattributes yends ylack yshortest youtKind youtWith ywork yworkWith yweight yfollow yfirsts ylasts ybare mt ynameAt ytokenAt td := by
        intro x' hx'
        unfold wY_pairs_146
        rw [nb_cl (n := p) (by omega), nb_cl (n := q) (by omega), nI_1 k]
        refine ⟨vp, vq, sy_meet (d := d) (kd := kd) (W := W) (vl := vl) hG (fun r hr => gφ p r lp hr) (fun r hr => gφ q r lq hr) (fun a b ha hb hn => ?_) hI (fun n' mt' td' I' M' c' => nm_e (ih (k + 1) n' x' mt' td' (by omega) (by have := M'.1; omega) I' (fun a b b1 b2 b3 => M'.2.1 _ (h0 a b b1 b2 b3)) (fun a b la lb hk' => ?_) (ld_cg (fun t => ?_) hx')))⟩
        · obtain ⟨g, hg⟩ := hP
          exact ⟨g + 1, hn, p, q, hg, ha, hb⟩
        · obtain ⟨k', l, ek⟩ := hk'
          rw [M'.2.2 k' (by omega)] at ek
          by_cases e2 : k' = k
          · rw [e2, et] at ek
            obtain ⟨ea, eb⟩ := inj a b la lb ek
            rw [ea, eb]
            exact c'
          · exact fun a' b' b1 b2 b3 => M'.2.1 _ (hc a b la lb ⟨k', by omega, ek⟩ a' b' b1 b2 b3)
        · constructor
          · rintro ⟨k', a, b, l, la, lb, eq, r⟩; exact ⟨k', a, b, l, la, lb, by rw [M'.2.2 k' (by omega)]; exact eq, r⟩
          · rintro ⟨k', a, b, l, la, lb, eq, r⟩; rw [M'.2.2 k' (by omega)] at eq; exact ⟨k', a, b, l, la, lb, eq, r⟩
      have t114 : ∀ z : Nat, ((z = i ∧ i ≤ j) ∨ (z = j ∧ j ≤ i)) → wY_pairs_114 post (wY_pairs_50 post (m + 1)) x (nI n) (nI k) (nI p) (nI q) (nI z) yplace yroot yrowLength yfirst youts ytop ykind ywith ysize ysort ymany yuse ytypeOf yleast ygreatest ylisted ytypeOfName yused yvalued ygiven yname yparent ychildren ycount yrow yvalue yattributes yends ylack yshortest youtKind youtWith ywork yworkWith yweight yfollow yfirsts ylasts ybare mt ynameAt ytokenAt td := by
        intro z hz
        unfold wY_pairs_114
        rw [nb_cl (n := p) (by omega), nb_cl (n := q) (by omega), i3, j3]
        refine ⟨vp, vq, pk_eq i j (fun e2 => fin x (ld_cg (fun t => (dd t).symm.trans Iff.rfl) ?_)) (fun e2 => ?_)⟩
        · refine ld_cg (fun t => ?_) hx
          exact ⟨Or.inl, fun r => r.elim id (fun r => absurd e2 r.1)⟩
        · have new : (∀ t', yp_D W k ytokenAt td t' → z ≤ t') → ld_S (yp_D W (k + 1) ytokenAt td) (nI z) := by
            intro hmin
            refine Or.inr ⟨z, by omega, rfl, (dd z).mpr (Or.inr ⟨e2, by omega⟩), fun t' r => ?_⟩
            rcases (dd t').mp r with r | r
            · exact hmin t' r
            · have := r.2; omega
          rcases hx with ⟨ex, r⟩ | ⟨t, t16, ex, r1, r2⟩
          · rw [ex]
            exact br_t nb_m10 (fin (nI z) (new (fun t' r' => absurd r' (r t'))))
          · rw [ex]
            refine br_f (nI_pos (by omega)) (pk_le t z (fun l => fin (nI t) (Or.inr ⟨t, t16, rfl, (dd t).mpr (Or.inl r1), fun t' r => ?_⟩)) (fun l => fin (nI z) (new (fun t' r => by have := r2 t' r; omega))))
            rcases (dd t').mp r with r | r
            · exact r2 t' r
            · have := r.2; omega
      refine pk_le j i (fun l => ⟨vq, ?_⟩) (fun l => ⟨vp, ?_⟩)
      · exact t114 j (Or.inr ⟨rfl, l⟩)
      · exact t114 i (Or.inl ⟨rfl, by omega⟩)
theorem sy_pr7 {post : Int32 → SY → Prop} (h : ∀ mt : Nat → Int32, (∀ j, j < 900 → mt j = 0) → wpY_meet (fun r u => match u with | (yplace, yroot, yrowLength, yfirst, youts, ytop, ykind, ywith, ysize, ysort, ymany, yuse, ytypeOf, yleast, ygreatest, ylisted, ytypeOfName, yused, yvalued, ygiven, yname, yparent, ychildren, ycount, yrow, yvalue, yattributes, yends, ylack, yshortest, youtKind, youtWith, ywork, yworkWith, yweight, yfollow, yfirsts, ylasts, ybare, ymet, ynameAt, ytokenAt, ytodo) => ∃ n50 : Nat, wY_pairs_50 post n50 (-1) r 0 yplace yroot yrowLength yfirst youts ytop ykind ywith ysize ysort ymany yuse ytypeOf yleast ygreatest ylisted ytypeOfName yused yvalued ygiven yname yparent ychildren ycount yrow yvalue yattributes yends ylack yshortest youtKind youtWith ywork yworkWith yweight yfollow yfirsts ylasts ybare ymet ynameAt ytokenAt ytodo) (yplace, yroot, yrowLength, yfirst, youts, ytop, ykind, ywith, ysize, ysort, ymany, yuse, ytypeOf, yleast, ygreatest, ylisted, ytypeOfName, yused, yvalued, ygiven, yname, yparent, ychildren, ycount, yrow, yvalue, yattributes, yends, ylack, yshortest, youtKind, youtWith, ywork, yworkWith, yweight, yfollow, yfirsts, ylasts, ybare, mt, ynameAt, ytokenAt, ytodo) (yfirsts 0) (yfirsts 0) 0) : ∀ (m k : Nat) (mt : Nat → Int32), k + m = 900 → (∀ j, j < k → mt j = 0) → wY_pairs_7 post (-1) 0 yplace yroot yrowLength yfirst youts ytop (m + 1) (nI k) ykind ywith ysize ysort ymany yuse ytypeOf yleast ygreatest ylisted ytypeOfName yused yvalued ygiven yname yparent ychildren ycount yrow yvalue yattributes yends ylack yshortest youtKind youtWith ywork yworkWith yweight yfollow yfirsts ylasts ybare mt ynameAt ytokenAt ytodo := by
  intro m
  induction m with
  | zero =>
    intro k mt hk hz
    obtain rfl : k = 900 := by omega
    exact br_t (by decide) (h mt hz)
  | succ m ih =>
    intro k mt hk hz
    refine br_f (nI_ge (b := 900) (by omega) (by omega)) ⟨vp_in_nI (by omega) (by omega), nm_r (e' := upd mt k 0) (by rw [nb_cl (by omega), nb_b0]) (nm_r (nI_1 k) (ih (k + 1) _ (by omega) (fun j hj => ?_)))⟩
    by_cases q : j = k
    · rw [q, pk_us]
    · rw [pk_un q]; exact hz j (by omega)
theorem sy_pairs {post : Int32 → SY → Prop} {d W : Nat} {kd vl : Nat → Nat} {x1 : Int32} (hG : yp_G d W kd vl yfirsts yfollow ytokenAt ynameAt) (h : ∀ (x : Int32) (mt td : Nat → Int32), cf_best (fun a b => ∃ p q, yp_P yfirsts yfollow ytokenAt vl p q ∧ (ytokenAt p).toNatClampNeg = a ∧ (ytokenAt q).toNatClampNeg = b) x → post x (yplace, yroot, yrowLength, yfirst, youts, ytop, ykind, ywith, ysize, ysort, ymany, yuse, ytypeOf, yleast, ygreatest, ylisted, ytypeOfName, yused, yvalued, ygiven, yname, yparent, ychildren, ycount, yrow, yvalue, yattributes, yends, ylack, yshortest, youtKind, youtWith, ywork, yworkWith, yweight, yfollow, yfirsts, ylasts, ybare, mt, ynameAt, ytokenAt, td)) : wpY_pairs post (yplace, yroot, yrowLength, yfirst, youts, ytop, ykind, ywith, ysize, ysort, ymany, yuse, ytypeOf, yleast, ygreatest, ylisted, ytypeOfName, yused, yvalued, ygiven, yname, yparent, ychildren, ycount, yrow, yvalue, yattributes, yends, ylack, yshortest, youtKind, youtWith, ywork, yworkWith, yweight, yfollow, yfirsts, ylasts, ybare, ymet, ynameAt, ytokenAt, ytodo) x1 := by
  have hG' := hG
  obtain ⟨hW, hd, hv, gF, gφ, gt⟩ := hG'
  refine ⟨901, sy_pr7 (fun mt hz => ?_) 900 0 ymet (by omega) (fun j hj => by omega)⟩
  refine sy_meet (d := d) (kd := kd) (W := W) (vl := vl) (n := 0) hG gF gF (fun p q h1 h2 hn => ⟨0, h1, h2, hn⟩) ⟨Nat.zero_le _, fun k hk => by omega, fun p q hp hq hm => absurd (hz _ (by omega)) hm⟩ (fun n1 mt1 td1 I1 M1 c1 => ⟨901, ?_⟩)
  refine sy_pr50 (d := d) (kd := kd) (W := W) (vl := vl) hG (fun n x mt td I c0 cc hx => h x mt td ?_) 900 0 n1 (-1) mt1 td1 (by omega) (by omega) I1 c1 (fun p q _ _ hk => by obtain ⟨k, l, _⟩ := hk; omega) (Or.inl ⟨rfl, fun t ht => by obtain ⟨k, _, _, l, _⟩ := ht; omega⟩)
  have full : ∀ g p q, gl_P (fun p q => bt (yfollow p) q = true) (fun q => bt (yfirsts 0) q = true) (yp_n ytokenAt vl) g p q → p < W ∧ q < W ∧ mt (30 * p + q) ≠ 0 := by
    intro g
    induction g with
    | zero =>
      rintro p q ⟨a, b, c⟩
      exact ⟨gF p a, gF q b, c0 p q a b c⟩
    | succ g ih =>
      rintro p q ⟨c, p', q', hg, a, b⟩
      obtain ⟨l1, l2, l3⟩ := ih p' q' hg
      exact ⟨gφ p' p l1 a, gφ q' q l2 b, cc p' q' l1 l2 (I.2.2 p' q' (by omega) (by omega) l3) p q a b c⟩
  have inD : ∀ p q, yp_P yfirsts yfollow ytokenAt vl p q → (ytokenAt p).toNatClampNeg ≠ (ytokenAt q).toNatClampNeg → yp_D W n ytokenAt td (ytokenAt p).toNatClampNeg := by
    rintro p q ⟨g, hg⟩ ne
    obtain ⟨l1, l2, l3⟩ := full g p q hg
    obtain ⟨k, k1, k2⟩ := I.2.2 p q (by omega) (by omega) l3
    exact ⟨k, p, q, k1, l1, l2, k2, ne, Or.inl rfl⟩
  rcases hx with ⟨ex, r⟩ | ⟨t, t16, ex, ⟨k', p, q, l, lp, lq, et, ne, ht⟩, r2⟩
  · refine Or.inl ⟨ex, fun a b hab ⟨p, q, hP, ea, eb⟩ => r _ (inD p q hP (by rw [ea, eb]; exact hab))⟩
  · obtain ⟨p0, q0, l1, l2, e0, hP⟩ := I.2.1 k' l
    rw [et] at e0
    have := (nI_eq (by omega) (by omega)).mp e0
    obtain ⟨rfl, rfl⟩ : p = p0 ∧ q = q0 := by omega
    refine Or.inr ⟨t, t16, ex, ?_, fun a b hab ⟨p', q', hP', ea, eb⟩ => r2 a (by have := inD p' q' hP' (by rw [ea, eb]; exact hab); rw [ea] at this; exact this)⟩
    rcases ht with ht | ht
    · exact ⟨(ytokenAt q).toNatClampNeg, by rw [ht]; exact fun e => ne e.symm, p, q, hP, ht.symm, rfl⟩
    · obtain ⟨g, hg⟩ := hP
      exact ⟨(ytokenAt p).toNatClampNeg, by rw [ht]; exact ne, q, p, ⟨g, gl_P_symm g p q hg⟩, ht.symm, rfl⟩
end
