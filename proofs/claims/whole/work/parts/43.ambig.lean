/-! ===== the reference's fragments ===== -/
def yg_g (ta fo : Nat → Int32) (lo hi : Nat) (F Λ E : Int32) (L : List Nat → Prop) : Prop := gl_F (fun p q => bt (fo p) q = true) (fun p => (ta p).toNatClampNeg) (fun p => lo ≤ p ∧ p < hi) (fun q => bt F q = true) (fun q => bt Λ q = true) (E ≠ 0) L
theorem yg_cg {ta fo ta' fo' : Nat → Int32} {lo hi : Nat} {F Λ E : Int32} {L : List Nat → Prop} (h : yg_g ta fo lo hi F Λ E L) (h1 : ∀ p, lo ≤ p → p < hi → ta' p = ta p ∧ fo' p = fo p) : yg_g ta' fo' lo hi F Λ E L := by
  refine gl_F_cg h (fun p q hp => ?_) (fun p hp => ?_)
  · show bt (fo' p) q = true ↔ bt (fo p) q = true
    rw [(h1 p hp.1 hp.2).2]
  · show (ta' p).toNatClampNeg = (ta p).toNatClampNeg
    rw [(h1 p hp.1 hp.2).1]
theorem yg_L {ta fo : Nat → Int32} {lo hi : Nat} {F Λ E : Int32} {L L' : List Nat → Prop} (h : yg_g ta fo lo hi F Λ E L) (hL : ∀ u, L' u ↔ L u) : yg_g ta fo lo hi F Λ E L' := gl_F_eq h (fun _ => Iff.rfl) (fun _ => Iff.rfl) (fun _ => Iff.rfl) Iff.rfl hL
def yk_f (fo : Nat → Int32) (A B : Int32) (m : Nat) : Nat → Int32 := fun j => if j < m ∧ bt A j = true then fo j ||| B else fo j
theorem yk_0 (fo : Nat → Int32) (A B : Int32) : yk_f fo A B 0 = fo := by
  funext j
  unfold yk_f
  rw [if_neg (by omega)]
theorem yk_t {fo : Nat → Int32} {A B : Int32} {m : Nat} (h : bt A m = true) : upd (yk_f fo A B m) m (yk_f fo A B m m ||| B) = yk_f fo A B (m + 1) := by
  funext j
  unfold upd
  by_cases e : j = m
  · rw [if_pos e, e]
    unfold yk_f
    rw [if_neg (by omega), if_pos ⟨by omega, h⟩]
  · rw [if_neg e]
    unfold yk_f
    by_cases q : j < m ∧ bt A j = true
    · rw [if_pos q, if_pos ⟨by omega, q.2⟩]
    · rw [if_neg q, if_neg (fun q' => q ⟨by omega, q'.2⟩)]
theorem yk_n {fo : Nat → Int32} {A B : Int32} {m : Nat} (h : bt A m = false) : yk_f fo A B m = yk_f fo A B (m + 1) := by
  funext j
  unfold yk_f
  by_cases q : j < m ∧ bt A j = true
  · rw [if_pos q, if_pos ⟨by omega, q.2⟩]
  · rw [if_neg q, if_neg (fun q' => by
      by_cases e : j = m
      · rw [e, h] at q'
        exact absurd q'.2 Bool.false_ne_true
      · exact q ⟨by omega, q'.2⟩)]
theorem yk_I {fo : Nat → Int32} {A B : Int32} {p q : Nat} (hA : ∀ i, bt A i = true → i < 30) : bt (yk_f fo A B 30 p) q = true ↔ bt (fo p) q = true ∨ (bt A p = true ∧ bt B q = true) := by
  unfold yk_f
  by_cases h : p < 30 ∧ bt A p = true
  · rw [if_pos h, bb_orI]
    exact ⟨fun r => r.elim Or.inl (fun r => Or.inr ⟨h.2, r⟩), fun r => r.elim Or.inl (fun r => Or.inr r.2)⟩
  · rw [if_neg h]
    exact ⟨Or.inl, fun r => r.elim id (fun r => absurd ⟨hA p r.1, r.1⟩ h)⟩
theorem yk_out {fo : Nat → Int32} {A B : Int32} {j : Nat} (h : bt A j = false) : yk_f fo A B 30 j = fo j := by
  unfold yk_f
  rw [if_neg (fun q => by rw [h] at q; exact absurd q.2 Bool.false_ne_true)]
theorem yg_seq {ta fo : Nat → Int32} {lo m hi : Nat} {F1 A1 E1 F2 A2 E2 : Int32} {L1 L2 : List Nat → Prop} (g1 : yg_g ta fo lo m F1 A1 E1 L1) (g2 : yg_g ta fo m hi F2 A2 E2 L2) (o1 : lo ≤ m) (o2 : m ≤ hi) (h30 : m ≤ 30) (hne : ∃ u, L2 u) : yg_g ta (yk_f fo A1 F2 30) lo hi (or_e F1 F2 E1) (or_e A2 A1 E2) (an_e E1 E2) (ex_cat L1 L2) :=
  gl_F_eq (gl_seq g1 g2 (fun p r1 r2 => by omega) hne (φ' := fun p q => bt (yk_f fo A1 F2 30 p) q = true) (fun p q => yk_I (fun i r => by have := (g1.2.1 i r).2; omega))) (fun p => by omega) (fun q => or_eI) (fun q => or_eI) (an_eI E1 E2) (fun u => Iff.rfl)
theorem yg_alt {ta fo : Nat → Int32} {lo m hi : Nat} {F1 A1 E1 F2 A2 E2 : Int32} {L1 L2 : List Nat → Prop} (g1 : yg_g ta fo lo m F1 A1 E1 L1) (g2 : yg_g ta fo m hi F2 A2 E2 L2) (o1 : lo ≤ m) (o2 : m ≤ hi) : yg_g ta fo lo hi (F2 ||| F1) (A2 ||| A1) (ow_e E2 E1) (fun u => L1 u ∨ L2 u) :=
  gl_F_eq (gl_alt g1 g2 (fun p r1 r2 => by omega)) (fun p => by omega) (fun q => bb_orI.trans Or.comm) (fun q => bb_orI.trans Or.comm) ((ow_eI E2 E1).trans Or.comm) (fun u => Iff.rfl)
/-- every NAME of the tree is a token with P -/
def ex_Q (P : Nat → Prop) : ex_T → Prop
  | .var i => P i
  | .num _ => True
  | .natCast _ => True
  | .intCast _ => True
  | .neg a => ex_Q P a
  | .add a b => ex_Q P a ∧ ex_Q P b
  | .mul a b => ex_Q P a ∧ ex_Q P b
  | .sub a b => ex_Q P a ∧ ex_Q P b
  | .pow a _ => ex_Q P a
theorem ex_Q_S {kd vl : Nat → Nat} {d : Nat} : ∀ (R : ex_T) (b : Nat), ex_S kd vl R b → b + ex_n R ≤ d → ex_Q (fun i => i < d ∧ kd i = 0) R := by
  intro R
  induction R with
  | var i =>
    intro b hS hb
    obtain ⟨h1, h2⟩ := hS
    simp only [ex_n] at hb
    subst h2
    exact ⟨by omega, h1⟩
  | num i => intro b _ _; trivial
  | natCast i => intro b _ _; trivial
  | intCast i => intro b _ _; trivial
  | neg a ih => intro b hS hb; simp only [ex_n] at hb; exact ih (b + 1) hS.2 (by omega)
  | add x y ihx ihy => intro b hS hb; simp only [ex_n] at hb; exact ⟨ihx (b + 1) hS.2.1 (by omega), ihy (b + 1 + ex_n x) hS.2.2 (by omega)⟩
  | mul x y ihx ihy => intro b hS hb; simp only [ex_n] at hb; exact ⟨ihx (b + 1) hS.2.1 (by omega), ihy (b + 1 + ex_n x) hS.2.2 (by omega)⟩
  | sub x y ihx ihy => intro b hS hb; simp only [ex_n] at hb; exact ⟨ihx (b + 1) hS.2.1 (by omega), ihy (b + 1 + ex_n x) hS.2.2 (by omega)⟩
  | pow a k ih => intro b hS hb; simp only [ex_n] at hb; exact ih (b + 1) hS.2 (by omega)
theorem ex_Q_N {P : Nat → Prop} {a : ex_T} (h : ex_Q P a) : ∀ hi lo, ex_Q P (ex_N a hi lo) := by
  intro hi
  induction hi with
  | zero => intro lo; exact trivial
  | succ hi ih =>
    intro lo
    cases hi with
    | zero =>
      show ex_Q P (if lo = 0 then .neg a else a)
      by_cases q : lo = 0
      · rw [if_pos q]; exact h
      · rw [if_neg q]; exact h
    | succ hi =>
      show ex_Q P (if lo = 0 then .neg (.mul a (ex_N a (hi + 1) (lo - 1))) else .mul a (ex_N a (hi + 1) (lo - 1)))
      by_cases q : lo = 0
      · rw [if_pos q]; exact ⟨h, ih (lo - 1)⟩
      · rw [if_neg q]; exact ⟨h, ih (lo - 1)⟩
theorem ex_Q_E {P : Nat → Prop} : ∀ R : ex_T, ex_Q P R → ex_Q P (ex_E R) := by
  intro R
  by_cases h0 : ex_w R = 0
  · intro _; rw [ex_E_0 R h0]; exact trivial
  · revert h0
    induction R with
    | var i => intro _ h; exact h
    | num i => intro h0; exact absurd rfl h0
    | natCast i => intro h0; exact absurd rfl h0
    | intCast i => intro h0; exact absurd rfl h0
    | neg a ih => intro h0 h; rw [show ex_E (.neg a) = .neg (ex_E a) from if_neg h0]; exact ih h0 h
    | add x y ihx ihy =>
      intro h0 h
      rw [show ex_E (.add x y) = .add (ex_E x) (ex_E y) from if_neg h0]
      refine ⟨?_, ?_⟩
      · by_cases q : ex_w x = 0
        · rw [ex_E_0 x q]; exact trivial
        · exact ihx q h.1
      · by_cases q : ex_w y = 0
        · rw [ex_E_0 y q]; exact trivial
        · exact ihy q h.2
    | mul x y ihx ihy =>
      intro h0 h
      rw [show ex_E (.mul x y) = .mul (ex_E x) (ex_E y) from if_neg h0]
      refine ⟨?_, ?_⟩
      · by_cases q : ex_w x = 0
        · rw [ex_E_0 x q]; exact trivial
        · exact ihx q h.1
      · by_cases q : ex_w y = 0
        · rw [ex_E_0 y q]; exact trivial
        · exact ihy q h.2
    | sub x y ihx ihy =>
      intro h0 h
      rw [show ex_E (.sub x y) = .add (.mul (ex_E x) (ex_E y)) (.mul (ex_E y) (ex_E x)) from if_neg h0]
      have qx : ex_Q P (ex_E x) := by
        by_cases q : ex_w x = 0
        · rw [ex_E_0 x q]; exact trivial
        · exact ihx q h.1
      have qy : ex_Q P (ex_E y) := by
        by_cases q : ex_w y = 0
        · rw [ex_E_0 y q]; exact trivial
        · exact ihy q h.2
      exact ⟨⟨qx, qy⟩, qy, qx⟩
    | pow a k ih =>
      intro h0 h
      have ha : ex_w a ≠ 0 := fun q => h0 (show ex_m k * ex_w a = 0 by rw [q, Nat.mul_zero])
      by_cases u : k < 16
      · rw [show ex_E (.pow a k) = ex_N (ex_E a) (k % 4) (k / 4) from (if_neg h0).trans (if_pos u)]
        exact ex_Q_N (ih ha h) _ _
      · rw [show ex_E (.pow a k) = .pow (ex_E a) k from (if_neg h0).trans (if_neg u)]
        exact ih ha h
theorem ou_ne {ok ow : Nat → Int32} : ∀ (T : ex_T) (b : Nat), ou_S ok ow T b → ∃ u, ex_L id T u := by
  intro T
  induction T with
  | var i => intro b _; exact ⟨_, rfl⟩
  | num i => intro b _; exact ⟨_, rfl⟩
  | natCast i => intro b _; exact ⟨_, rfl⟩
  | intCast i => intro b _; exact ⟨_, rfl⟩
  | neg a ih => intro b _; exact ⟨[], Or.inl rfl⟩
  | add x y ihx ihy => intro b h; obtain ⟨u, hu⟩ := ihx _ h.2.1; exact ⟨u, Or.inl hu⟩
  | mul x y ihx ihy => intro b h; obtain ⟨u, hu⟩ := ihx _ h.2.1; obtain ⟨v, hv⟩ := ihy _ h.2.2; exact ⟨u ++ v, u, v, rfl, hu, hv⟩
  | sub x y ihx ihy => intro b h; exact h.elim
  | pow a k ih =>
    intro b h
    rcases h.1 with ⟨q, _⟩ | ⟨q, _⟩
    · subst q; exact ⟨[], 0, by decide, fun q => by omega, rfl⟩
    · subst q
      obtain ⟨u, hu⟩ := ih _ h.2
      exact ⟨u, 1, by decide, fun q => by omega, ex_pw_one.mpr hu⟩
/-- the fragment f of w positions from P on spells L; the rest as it was -/
def yg_Q (d : Nat) (kd vl : Nat → Nat) (w : Nat) (L : List Nat → Prop) (f P : Nat) (ta nm fi la ba fo ta' nm' fi' la' ba' fo' : Nat → Int32) : Prop := (ba' f = 0 ∨ ba' f = 1) ∧ yg_g ta' fo' P (P + w) (fi' f) (la' f) (ba' f) L ∧ (∀ j, j < f → fi' j = fi j ∧ la' j = la j ∧ ba' j = ba j) ∧ (∀ p, P + w ≤ p → ta' p = ta p ∧ nm' p = nm p ∧ fo' p = fo p) ∧ (∀ p, P ≤ p → p < P + w → ∃ i, i < d ∧ kd i = 0 ∧ ta' p = nI i ∧ nm' p = nI (vl i))
section
variable {yplace yroot yrowLength yfirst youts ytop : Int32} {ykind ywith ysize ysort ymany yuse ytypeOf yleast ygreatest ylisted ytypeOfName yused yvalued ygiven yname yparent ychildren ycount yrow yvalue yattributes yends ylack yshortest youtKind youtWith ywork yworkWith yweight yfollow yfirsts ylasts ybare ymet ynameAt ytokenAt ytodo : Nat → Int32}
theorem sy_con2 {post : SY → Prop} {A B : Int32} (h : post (yplace, yroot, yrowLength, yfirst, youts, ytop, ykind, ywith, ysize, ysort, ymany, yuse, ytypeOf, yleast, ygreatest, ylisted, ytypeOfName, yused, yvalued, ygiven, yname, yparent, ychildren, ycount, yrow, yvalue, yattributes, yends, ylack, yshortest, youtKind, youtWith, ywork, yworkWith, yweight, yk_f yfollow A B 30, yfirsts, ylasts, ybare, ymet, ynameAt, ytokenAt, ytodo)) : ∀ m i, i + m = 30 → wY_connect_2 post A B yplace yroot yrowLength yfirst youts ytop (m + 1) (nI i) ykind ywith ysize ysort ymany yuse ytypeOf yleast ygreatest ylisted ytypeOfName yused yvalued ygiven yname yparent ychildren ycount yrow yvalue yattributes yends ylack yshortest youtKind youtWith ywork yworkWith yweight (yk_f yfollow A B i) yfirsts ylasts ybare ymet ynameAt ytokenAt ytodo := by
  intro m
  induction m with
  | zero =>
    intro i hi
    obtain rfl : i = 30 := by omega
    exact br_t (by decide) h
  | succ m ih =>
    intro i hi
    have ih' := ih (i + 1) (by omega)
    refine br_f (nI_ge (b := 30) (by omega) (by omega)) ?_
    cases hb : bt A i with
    | false =>
      rw [← yk_n hb] at ih'
      exact br_t ((bb_t A (by omega)).mpr hb) (nm_r (nI_1 i) ih')
    | true =>
      rw [← yk_t hb] at ih'
      refine br_f ((bb_t' A (by omega)).mpr hb) ?_
      rw [nb_cl (n := i) (by omega)]
      exact ⟨vp_in_nI (by omega) (by omega), vp_in_nI (by omega) (by omega), nm_e (nm_r (nI_1 i) ih')⟩
theorem sy_connect {post : SY → Prop} {A B : Int32} (h : post (yplace, yroot, yrowLength, yfirst, youts, ytop, ykind, ywith, ysize, ysort, ymany, yuse, ytypeOf, yleast, ygreatest, ylisted, ytypeOfName, yused, yvalued, ygiven, yname, yparent, ychildren, ycount, yrow, yvalue, yattributes, yends, ylack, yshortest, youtKind, youtWith, ywork, yworkWith, yweight, yk_f yfollow A B 30, yfirsts, ylasts, ybare, ymet, ynameAt, ytokenAt, ytodo)) : wpY_connect post (yplace, yroot, yrowLength, yfirst, youts, ytop, ykind, ywith, ysize, ysort, ymany, yuse, ytypeOf, yleast, ygreatest, ylisted, ytypeOfName, yused, yvalued, ygiven, yname, yparent, ychildren, ycount, yrow, yvalue, yattributes, yends, ylack, yshortest, youtKind, youtWith, ywork, yworkWith, yweight, yfollow, yfirsts, ylasts, ybare, ymet, ynameAt, ytokenAt, ytodo) A B := by
  refine ⟨31, ?_⟩
  have t := sy_con2 (A := A) (B := B) h 30 0 (by omega)
  rw [yk_0] at t
  exact t
theorem sy_joinN {post : Int32 → SY → Prop} {p f : Nat} (hf : f < 1000) (h : post (nI (f + 1)) (yplace, yroot, yrowLength, yfirst, youts, ytop, ykind, ywith, ysize, ysort, ymany, yuse, ytypeOf, yleast, ygreatest, ylisted, ytypeOfName, yused, yvalued, ygiven, yname, yparent, ychildren, ycount, yrow, yvalue, yattributes, yends, ylack, yshortest, youtKind, youtWith, ywork, yworkWith, yweight, yfollow, upd yfirsts f ((1 : Int32) <<< (nI p &&& 31)), upd ylasts f ((1 : Int32) <<< (nI p &&& 31)), upd ybare f 0, ymet, ynameAt, ytokenAt, ytodo)) : wpY_join post (yplace, yroot, yrowLength, yfirst, youts, ytop, ykind, ywith, ysize, ysort, ymany, yuse, ytypeOf, yleast, ygreatest, ylisted, ytypeOfName, yused, yvalued, ygiven, yname, yparent, ychildren, ycount, yrow, yvalue, yattributes, yends, ylack, yshortest, youtKind, youtWith, ywork, yworkWith, yweight, yfollow, yfirsts, ylasts, ybare, ymet, ynameAt, ytokenAt, ytodo) (nI 0) (nI p) (nI f) := by
  have vf : vp_in (nI f) 1000 := vp_in_nI hf (by omega)
  have cf : (nI f).toNatClampNeg = f := nb_cl (by omega)
  refine nm_e (br_f (by decide) (br_f (by decide) (br_t rfl ?_)))
  unfold wY_join_48
  refine br_t rfl ?_
  unfold wY_join_64
  rw [nI_1 f]
  refine ⟨vf, nm_r (e' := upd yfirsts f ((1 : Int32) <<< (nI p &&& 31))) (by rw [cf]) ⟨vf, vf, nm_r (e' := upd ylasts f ((1 : Int32) <<< (nI p &&& 31))) (by rw [cf, pk_us]) (br_f (by decide) ⟨vf, nm_r (e' := upd ybare f 0) (by rw [cf, nb_b0]) h⟩)⟩⟩
theorem sy_joinE {post : Int32 → SY → Prop} {f : Nat} {x2 : Int32} (hf : f < 1000) (h : post (nI (f + 1)) (yplace, yroot, yrowLength, yfirst, youts, ytop, ykind, ywith, ysize, ysort, ymany, yuse, ytypeOf, yleast, ygreatest, ylisted, ytypeOfName, yused, yvalued, ygiven, yname, yparent, ychildren, ycount, yrow, yvalue, yattributes, yends, ylack, yshortest, youtKind, youtWith, ywork, yworkWith, yweight, yfollow, upd yfirsts f 0, upd ylasts f 0, upd ybare f 1, ymet, ynameAt, ytokenAt, ytodo)) : wpY_join post (yplace, yroot, yrowLength, yfirst, youts, ytop, ykind, ywith, ysize, ysort, ymany, yuse, ytypeOf, yleast, ygreatest, ylisted, ytypeOfName, yused, yvalued, ygiven, yname, yparent, ychildren, ycount, yrow, yvalue, yattributes, yends, ylack, yshortest, youtKind, youtWith, ywork, yworkWith, yweight, yfollow, yfirsts, ylasts, ybare, ymet, ynameAt, ytokenAt, ytodo) (nI 6) x2 (nI f) := by
  have vf : vp_in (nI f) 1000 := vp_in_nI hf (by omega)
  have cf : (nI f).toNatClampNeg = f := nb_cl (by omega)
  refine nm_e (br_f (by decide) (br_f (by decide) (br_f (by decide) (br_f (by decide) (br_f (by decide) (br_f (by decide) (br_f (by decide) (br_f (by decide) (br_t rfl ?_)))))))))
  unfold wY_join_48
  refine br_f (by decide) ?_
  unfold wY_join_64
  rw [nI_1 f]
  refine ⟨vf, nm_r (e' := upd yfirsts f 0) (by rw [cf]) ⟨vf, vf, nm_r (e' := upd ylasts f 0) (by rw [cf, pk_us]) (br_t rfl ⟨vf, nm_r (e' := upd ybare f 1) (by rw [cf, nb_b1]) h⟩)⟩⟩
theorem sy_join3 {post : Int32 → SY → Prop} {f : Nat} {x2 : Int32} (hf : f < 1000) (h : post (nI (f + 1)) (yplace, yroot, yrowLength, yfirst, youts, ytop, ykind, ywith, ysize, ysort, ymany, yuse, ytypeOf, yleast, ygreatest, ylisted, ytypeOfName, yused, yvalued, ygiven, yname, yparent, ychildren, ycount, yrow, yvalue, yattributes, yends, ylack, yshortest, youtKind, youtWith, ywork, yworkWith, yweight, yfollow, yfirsts, ylasts, upd ybare f 1, ymet, ynameAt, ytokenAt, ytodo)) : wpY_join post (yplace, yroot, yrowLength, yfirst, youts, ytop, ykind, ywith, ysize, ysort, ymany, yuse, ytypeOf, yleast, ygreatest, ylisted, ytypeOfName, yused, yvalued, ygiven, yname, yparent, ychildren, ycount, yrow, yvalue, yattributes, yends, ylack, yshortest, youtKind, youtWith, ywork, yworkWith, yweight, yfollow, yfirsts, ylasts, ybare, ymet, ynameAt, ytokenAt, ytodo) (nI 3) x2 (nI (f + 1)) := by
  have vf : vp_in (nI f) 1000 := vp_in_nI hf (by omega)
  have cf : (nI f).toNatClampNeg = f := nb_cl (by omega)
  exact nm_r (e' := nI f) (nb_s1 (by omega)) (br_f (by decide) (br_f (by decide) (br_f (by decide) (br_f (by decide) (br_f (by decide) (br_t rfl ⟨vf, nm_r (e' := upd ybare f 1) (by rw [cf, nb_b1]) h⟩))))))
theorem sy_join4 {post : Int32 → SY → Prop} {f : Nat} {x2 : Int32} (hf : f < 1000) (he : ybare f = 0 ∨ ybare f = 1) (h : post (nI (f + 1)) (yplace, yroot, yrowLength, yfirst, youts, ytop, ykind, ywith, ysize, ysort, ymany, yuse, ytypeOf, yleast, ygreatest, ylisted, ytypeOfName, yused, yvalued, ygiven, yname, yparent, ychildren, ycount, yrow, yvalue, yattributes, yends, ylack, yshortest, youtKind, youtWith, ywork, yworkWith, yweight, yk_f yfollow (ylasts f) (yfirsts f) 30, yfirsts, ylasts, upd ybare f 1, ymet, ynameAt, ytokenAt, ytodo)) : wpY_join post (yplace, yroot, yrowLength, yfirst, youts, ytop, ykind, ywith, ysize, ysort, ymany, yuse, ytypeOf, yleast, ygreatest, ylisted, ytypeOfName, yused, yvalued, ygiven, yname, yparent, ychildren, ycount, yrow, yvalue, yattributes, yends, ylack, yshortest, youtKind, youtWith, ywork, yworkWith, yweight, yfollow, yfirsts, ylasts, ybare, ymet, ynameAt, ytokenAt, ytodo) (nI 4) x2 (nI (f + 1)) := by
  have vf : vp_in (nI f) 1000 := vp_in_nI hf (by omega)
  have cf : (nI f).toNatClampNeg = f := nb_cl (by omega)
  refine nm_r (e' := nI f) (nb_s1 (by omega)) (br_f (by decide) (br_f (by decide) (br_f (by decide) (br_f (by decide) (br_f (by decide) (br_f (by decide) (br_t rfl ?_)))))))
  unfold wY_join_108
  rw [cf]
  refine ⟨vf, vf, sy_connect ⟨vf, br_t rfl ⟨vf, nm_r (e' := upd ybare f 1) (by rcases he with q | q <;> rw [q] <;> rfl) h⟩⟩⟩
theorem sy_join5 {post : Int32 → SY → Prop} {f : Nat} {x2 : Int32} (hf : f < 1000) (he : ybare f = 0 ∨ ybare f = 1) (h : post (nI (f + 1)) (yplace, yroot, yrowLength, yfirst, youts, ytop, ykind, ywith, ysize, ysort, ymany, yuse, ytypeOf, yleast, ygreatest, ylisted, ytypeOfName, yused, yvalued, ygiven, yname, yparent, ychildren, ycount, yrow, yvalue, yattributes, yends, ylack, yshortest, youtKind, youtWith, ywork, yworkWith, yweight, yk_f yfollow (ylasts f) (yfirsts f) 30, yfirsts, ylasts, ybare, ymet, ynameAt, ytokenAt, ytodo)) : wpY_join post (yplace, yroot, yrowLength, yfirst, youts, ytop, ykind, ywith, ysize, ysort, ymany, yuse, ytypeOf, yleast, ygreatest, ylisted, ytypeOfName, yused, yvalued, ygiven, yname, yparent, ychildren, ycount, yrow, yvalue, yattributes, yends, ylack, yshortest, youtKind, youtWith, ywork, yworkWith, yweight, yfollow, yfirsts, ylasts, ybare, ymet, ynameAt, ytokenAt, ytodo) (nI 5) x2 (nI (f + 1)) := by
  have vf : vp_in (nI f) 1000 := vp_in_nI hf (by omega)
  have cf : (nI f).toNatClampNeg = f := nb_cl (by omega)
  refine nm_r (e' := nI f) (nb_s1 (by omega)) (br_f (by decide) (br_f (by decide) (br_f (by decide) (br_f (by decide) (br_f (by decide) (br_f (by decide) (br_f (by decide) (br_t rfl ?_))))))))
  unfold wY_join_108
  rw [cf]
  have e : vp_nar .boolean (ybare f ||| 0) = ybare f := by rcases he with q | q <;> rw [q] <;> rfl
  refine ⟨vf, vf, sy_connect ⟨vf, br_f (by decide) ⟨vf, nm_r (e' := ybare) (by rw [e, kp_id]) h⟩⟩⟩
theorem sy_join2 {post : Int32 → SY → Prop} {f : Nat} {x2 : Int32} (hf : f + 1 < 1000) (he : ybare f = 0 ∨ ybare f = 1) (he' : ybare (f + 1) = 0 ∨ ybare (f + 1) = 1) (h : post (nI (f + 1)) (yplace, yroot, yrowLength, yfirst, youts, ytop, ykind, ywith, ysize, ysort, ymany, yuse, ytypeOf, yleast, ygreatest, ylisted, ytypeOfName, yused, yvalued, ygiven, yname, yparent, ychildren, ycount, yrow, yvalue, yattributes, yends, ylack, yshortest, youtKind, youtWith, ywork, yworkWith, yweight, yfollow, upd yfirsts f (yfirsts f ||| yfirsts (f + 1)), upd ylasts f (ylasts f ||| ylasts (f + 1)), upd ybare f (ow_e (ybare f) (ybare (f + 1))), ymet, ynameAt, ytokenAt, ytodo)) : wpY_join post (yplace, yroot, yrowLength, yfirst, youts, ytop, ykind, ywith, ysize, ysort, ymany, yuse, ytypeOf, yleast, ygreatest, ylisted, ytypeOfName, yused, yvalued, ygiven, yname, yparent, ychildren, ycount, yrow, yvalue, yattributes, yends, ylack, yshortest, youtKind, youtWith, ywork, yworkWith, yweight, yfollow, yfirsts, ylasts, ybare, ymet, ynameAt, ytokenAt, ytodo) (nI 2) x2 (nI (f + 2)) := by
  have vf : vp_in (nI f) 1000 := vp_in_nI (by omega) (by omega)
  have vg : vp_in (nI (f + 1)) 1000 := vp_in_nI (by omega) (by omega)
  have cf : (nI f).toNatClampNeg = f := nb_cl (by omega)
  have cg : (nI (f + 1)).toNatClampNeg = f + 1 := nb_cl (by omega)
  have s : nI (f + 1) - 1 = nI f := nb_s1 (by omega)
  refine nm_r (e' := nI (f + 1)) (nb_s1 (by omega)) (br_f (by decide) (br_f (by decide) (br_f (by decide) (br_f (by decide) (br_t rfl ?_)))))
  rw [s, cf, cg]
  have e : vp_nar .boolean (ybare f ||| ybare (f + 1)) = ow_e (ybare f) (ybare (f + 1)) := by rcases he with q | q <;> rcases he' with q' | q' <;> rw [q, q'] <;> rfl
  exact ⟨vf, vg, vf, nm_e ⟨vf, vg, vf, nm_e ⟨vf, vg, vf, nm_r (e' := upd ybare f (ow_e (ybare f) (ybare (f + 1)))) (by rw [e]) h⟩⟩⟩
theorem sy_join1 {post : Int32 → SY → Prop} {f : Nat} {x2 : Int32} (hf : f + 1 < 1000) (he : ybare f = 0 ∨ ybare f = 1) (he' : ybare (f + 1) = 0 ∨ ybare (f + 1) = 1) (h : post (nI (f + 1)) (yplace, yroot, yrowLength, yfirst, youts, ytop, ykind, ywith, ysize, ysort, ymany, yuse, ytypeOf, yleast, ygreatest, ylisted, ytypeOfName, yused, yvalued, ygiven, yname, yparent, ychildren, ycount, yrow, yvalue, yattributes, yends, ylack, yshortest, youtKind, youtWith, ywork, yworkWith, yweight, yk_f yfollow (ylasts (f + 1)) (yfirsts f) 30, upd yfirsts f (or_e (yfirsts (f + 1)) (yfirsts f) (ybare (f + 1))), upd ylasts f (or_e (ylasts f) (ylasts (f + 1)) (ybare f)), upd ybare f (an_e (ybare (f + 1)) (ybare f)), ymet, ynameAt, ytokenAt, ytodo)) : wpY_join post (yplace, yroot, yrowLength, yfirst, youts, ytop, ykind, ywith, ysize, ysort, ymany, yuse, ytypeOf, yleast, ygreatest, ylisted, ytypeOfName, yused, yvalued, ygiven, yname, yparent, ychildren, ycount, yrow, yvalue, yattributes, yends, ylack, yshortest, youtKind, youtWith, ywork, yworkWith, yweight, yfollow, yfirsts, ylasts, ybare, ymet, ynameAt, ytokenAt, ytodo) (nI 1) x2 (nI (f + 2)) := by
  have vf : vp_in (nI f) 1000 := vp_in_nI (by omega) (by omega)
  have vg : vp_in (nI (f + 1)) 1000 := vp_in_nI (by omega) (by omega)
  have cf : (nI f).toNatClampNeg = f := nb_cl (by omega)
  have cg : (nI (f + 1)).toNatClampNeg = f + 1 := nb_cl (by omega)
  have s : nI (f + 1) - 1 = nI f := nb_s1 (by omega)
  refine nm_r (e' := nI (f + 1)) (nb_s1 (by omega)) (br_f (by decide) (br_f (by decide) (br_f (by decide) (br_t rfl ?_))))
  unfold wY_join_208
  rw [s, cf, cg]
  have e : vp_nar .boolean (ybare f &&& ybare (f + 1)) = an_e (ybare (f + 1)) (ybare f) := by rcases he with q | q <;> rcases he' with q' | q' <;> rw [q, q'] <;> rfl
  have t294 : ∀ B A : Int32, B = or_e (yfirsts (f + 1)) (yfirsts f) (ybare (f + 1)) → ylasts f ||| A = or_e (ylasts f) (ylasts (f + 1)) (ybare f) → wY_join_294 post (nI (f + 1)) B A (ylasts f) (nI f) yplace yroot yrowLength yfirst youts ytop ykind ywith ysize ysort ymany yuse ytypeOf yleast ygreatest ylisted ytypeOfName yused yvalued ygiven yname yparent ychildren ycount yrow yvalue yattributes yends ylack yshortest youtKind youtWith ywork yworkWith yweight (yk_f yfollow (ylasts (f + 1)) (yfirsts f) 30) yfirsts ylasts ybare ymet ynameAt ytokenAt ytodo := by
    intro B A hB hA
    unfold wY_join_294
    rw [s, cf, cg, hA, hB]
    exact ⟨vf, nm_e ⟨vf, nm_e ⟨vf, vg, vf, nm_r (e' := upd ybare f (an_e (ybare (f + 1)) (ybare f))) (by rw [e]) h⟩⟩⟩
  have t258 : ∀ Z : Int32, yfirsts (f + 1) ||| Z = or_e (yfirsts (f + 1)) (yfirsts f) (ybare (f + 1)) → wY_join_258 post (nI (f + 1)) Z (yfirsts (f + 1)) yplace yroot yrowLength yfirst youts ytop ykind ywith ysize ysort ymany yuse ytypeOf yleast ygreatest ylisted ytypeOfName yused yvalued ygiven yname yparent ychildren ycount yrow yvalue yattributes yends ylack yshortest youtKind youtWith ywork yworkWith yweight (yk_f yfollow (ylasts (f + 1)) (yfirsts f) 30) yfirsts ylasts ybare ymet ynameAt ytokenAt ytodo := by
    intro Z hZ
    unfold wY_join_258
    rw [s, cf, cg]
    refine nm_e ⟨vf, vf, ?_⟩
    by_cases q : ybare f = 0
    · exact br_t q (t294 _ _ hZ (by unfold or_e; rw [if_pos q]))
    · exact br_f q ⟨vg, t294 _ _ hZ (by unfold or_e; rw [if_neg q])⟩
  refine ⟨vg, vf, sy_connect ⟨vg, vg, ?_⟩⟩
  by_cases q : ybare (f + 1) = 0
  · exact br_t q (t258 _ (by unfold or_e; rw [if_pos q]))
  · exact br_f q ⟨vf, t258 _ (by unfold or_e; rw [if_neg q])⟩
end
